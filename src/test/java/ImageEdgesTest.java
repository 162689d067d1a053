/**
 * The edges of images and of what is told (DOC.md, promises 24 to 26). Above each test stands the sentence that it is
 * for.
 */
public final class ImageEdgesTest {
    private static final int NONE = FairWheel.NONE;
    private static final int FAR = Integer.MAX_VALUE, FAR_BELOW = Integer.MIN_VALUE;

    private ImageEdgesTest() {
    }

    public static void main(String[] args) {
        imagesAreTwo();
        restoreOfWhatWasNotKept();
        imageOfAnEmptyWheel();
        imageOfAFullWheel();
        imageOfEachWeight();
        imageOfTheDrag();
        imageOfEachFoot();
        imageOfPebbles();
        imageOfSixSights();
        imageNotOfThePad();
        imageKeptAnew();
        imagesStandApart();
        toldOfAnEmptyWheel();
        toldOfAFullWheel();
        toldBeyondItsNumbers();
        Check.end();
    }

    /** Promises 24 and 25: "(0, 1)" "OUTSIDE" */
    private static void imagesAreTwo() {
        FairWheel x = new FairWheel();
        for (int n : new int[] {FAR_BELOW, -2, -1, 2, 3, FAR}) {
            Check.due("image " + n, x.image(n), FairWheel.OUTSIDE);
            Check.due("restore " + n, x.restore(n), FairWheel.OUTSIDE);
        }
        for (int n = 0; n < 2; n++) {
            Check.due("restore " + n + " of none", x.restore(n), FairWheel.STATE);
            Check.due("image " + n, x.image(n), 1);
            Check.due("restore " + n, x.restore(n), 1);
        }
        for (int n : new int[] {FAR_BELOW, -1, 2, FAR}) {
            Check.due("restore " + n + " still", x.restore(n), FairWheel.OUTSIDE);
        }
    }

    /** Promise 25: "STATE: it was not." */
    private static void restoreOfWhatWasNotKept() {
        for (int n = 0; n < 2; n++) {
            FairWheel x = Check.told(">A>");
            x.seen(0, 0);
            Check.due("none was kept", x.restore(n), FairWheel.STATE);
            Check.due("all stays", x.foot(), 2);
            Check.due("all stays", x.told(20), 1);
            Check.due("all stays", x.told(2), 1);
            x.image(1 - n);
            Check.due("the other was kept", x.restore(n), FairWheel.STATE);
            Check.due("the other", x.restore(1 - n), 1);
            Check.due("this one is still not", x.restore(n), FairWheel.STATE);
        }
    }

    /** Promise 25: "It is as it was when it was kept: 1." */
    private static void imageOfAnEmptyWheel() {
        for (int n = 0; n < 2; n++) {
            FairWheel x = new FairWheel();
            Check.due("kept", x.image(n), 1);
            Check.tell(x, "A9>B>C>D>E>F>G>H9");
            Check.due("all are on it", x.told(3), 255);
            Check.due("back", x.restore(n), 1);
            Check.due("nobody is", x.told(3), 0);
            for (int i = 0; i < 8; i++) {
                Check.due("car of " + i, x.told(20 + i), NONE);
                Check.due("who is in " + i, x.car(i, 0), NONE);
                Check.due("pebbles of " + i, x.car(i, 1), 0);
            }
            Check.due("foot", x.foot(), 0);
            Check.tell(x, "A>B>C>D>E>F>G>H");
            Check.due("they may get in again", x.told(3), 255);
        }
    }

    private static void imageOfAFullWheel() {
        for (int n = 0; n < 2; n++) {
            FairWheel x = Check.told("H>G>F>E>D>C>B>A");
            x.image(n);
            Check.tell(x, "a<b<c<d<e<f<g<h");
            Check.due("nobody is on it", x.told(3), 0);
            Check.tell(x, "A");
            Check.due("back", x.restore(n), 1);
            Check.due("all are", x.told(3), 255);
            for (int i = 0; i < 8; i++) {
                Check.due("car of " + i, x.told(20 + i), 7 - i);
                Check.due("who is in " + i, x.car(i, 0), 7 - i);
            }
            Check.due("foot", x.foot(), 7);
            Check.tell(x, "a<b<c<d<e<f<g<h");
            Check.due("they may get out again", x.told(3), 0);
        }
    }

    private static void imageOfEachWeight() {
        for (int n = 0; n < 2; n++) {
            FairWheel x = new FairWheel();
            for (int person = 0; person < 8; person++) {
                x.weigh(person, 99 - person);
            }
            x.image(n);
            for (int person = 0; person < 8; person++) {
                x.weigh(person, 1 + person);
            }
            x.restore(n);
            for (int person = 0; person < 8; person++) {
                Check.due("weight of " + person, x.told(10 + person), 99 - person);
                x.weigh(person, 50);
            }
            x.restore(n);
            Check.due("again", x.told(10), 99);
            Check.due("again", x.told(17), 92);
        }
    }

    private static void imageOfTheDrag() {
        for (int n = 0; n < 2; n++) {
            FairWheel x = new FairWheel();
            x.drag(0);
            x.image(n);
            x.drag(9999);
            x.restore(n);
            Check.due("none", x.told(1), 0);
            x.drag(9999);
            x.image(n);
            x.drag(0);
            x.restore(n);
            Check.due("all", x.told(1), 9999);
        }
    }

    private static void imageOfEachFoot() {
        for (int n = 0; n < 2; n++) {
            for (int foot = 0; foot < 8; foot++) {
                FairWheel x = Check.told(">".repeat(foot));
                x.image(n);
                Check.tell(x, ">>>");
                Check.due("three on", x.foot(), (foot + 3) % 8);
                x.restore(n);
                Check.due("back", x.foot(), foot);
                Check.due("its place", x.car(foot, 2), 0);
            }
        }
    }

    private static void imageOfPebbles() {
        for (int n = 0; n < 2; n++) {
            FairWheel x = Check.told("1>2>3>4>5>6>7>" + "9".repeat(11));
            x.image(n);
            Check.tell(x, "0>0>0>0>0>0>0>0");
            Check.due("none", x.brake(), 0);
            x.restore(n);
            for (int car = 0; car < 8; car++) {
                Check.due("pebbles of " + car, x.car(car, 1), car < 7 ? car + 1 : 99);
            }
        }
    }

    private static void imageOfSixSights() {
        for (int n = 0; n < 2; n++) {
            FairWheel x = Check.told("A>B>C>D>E>F");
            for (int i = 0; i < 6; i++) {
                x.seen(i, i);
            }
            x.image(n);
            x.forget();
            x.seen(7, 7);
            x.image(1 - n);
            x.restore(n);
            Check.due("six", x.told(2), 6);
            Check.due("which hold", x.filled(-1), 1);
            Check.due("full", x.seen(0, 0), FairWheel.FULL);
            x.restore(1 - n);
            Check.due("one", x.told(2), 1);
            Check.due("which does not", x.filled(-1), 0);
            x.restore(n);
            Check.tell(x, "f");
            Check.due("the sixth counts", x.filled(-1), 0);
            Check.due("six go", x.forget(), 6);
        }
    }

    /** Promise 24: "All but the PAD is kept in an IMAGE" */
    private static void imageNotOfThePad() {
        for (int n = 0; n < 2; n++) {
            FairWheel x = Check.write(new FairWheel(), ">".repeat(60));
            Check.due("kept beside a full pad", x.image(n), 1);
            Check.due("it stays", x.told(0), 60);
            x.wipe();
            x.restore(n);
            Check.due("the pad stays empty", x.told(0), 0);
            Check.write(x, "A>?");
            x.image(n);
            x.say('!');
            x.restore(n);
            Check.due("four signs stay", x.told(0), 4);
            Check.due("and the fault", x.fault(), 3);
            Check.write(x, "??");
            x.image(n);
            Check.write(x, ">");
            x.restore(n);
            Check.due("nothing is asked", x.behind(0), 1);
        }
    }

    /** "as it was when it was kept": the last time, and not changed by what came then. */
    private static void imageKeptAnew() {
        for (int n = 0; n < 2; n++) {
            FairWheel x = new FairWheel();
            for (int foot = 1; foot < 5; foot++) {
                Check.tell(x, ">");
                x.weigh(3, foot);
                Check.due("kept", x.image(n), 1);
                Check.tell(x, ">A<");
                x.weigh(3, 77);
                Check.due("back", x.restore(n), 1);
                Check.due("foot", x.foot(), foot);
                Check.due("weight", x.told(13), foot);
                Check.due("A", x.told(20), NONE);
                Check.tell(x, "A9");
                Check.due("back again", x.restore(n), 1);
                Check.due("A", x.told(20), NONE);
                Check.due("pebbles", x.car(foot, 1), 0);
            }
        }
    }

    private static void imagesStandApart() {
        FairWheel x = Check.told("A");
        x.image(0);
        Check.tell(x, ">B");
        x.image(1);
        Check.tell(x, ">C");
        for (int round = 0; round < 3; round++) {
            x.restore(0);
            Check.due("A alone", x.told(3), 1);
            Check.due("A alone", x.foot(), 0);
            x.restore(1);
            Check.due("A and B", x.told(3), 3);
            Check.due("A and B", x.foot(), 1);
        }
        x.restore(0);
        x.image(1);
        x.restore(1);
        Check.due("A alone in both", x.told(3), 1);
    }

    /** Promise 26: "0 signs, 1 DRAG, 2 SIGHTS, 3 CARS that are taken (bits)" */
    private static void toldOfAnEmptyWheel() {
        FairWheel x = new FairWheel();
        int[] due = {0, 20, 0, 0};
        for (int what = 0; what < 4; what++) {
            Check.due("told " + what, x.told(what), due[what]);
        }
        Check.tell(x, "9>9");
        Check.due("pebbles take none", x.told(3), 0);
        Check.write(x, "A");
        Check.due("one sign", x.told(0), 1);
        Check.due("what is not done takes none", x.told(3), 0);
        Check.due("nor seats anybody", x.told(20), NONE);
    }

    /** "10 to 17 weights of PEOPLE, 20 to 27 in which CAR a PERSON is (NONE)" */
    private static void toldOfAFullWheel() {
        FairWheel x = new FairWheel();
        for (int i = 0; i < 8; i++) {
            x.weigh(i, 90 + i);
            Check.tell(x, "" + (char) ('A' + i) + "<");
            Check.due("weight of " + i, x.told(10 + i), 90 + i);
            Check.due("car of " + i, x.told(20 + i), (8 - i) % 8);
        }
        Check.due("all", x.told(3), 255);
        int taken = 255;
        for (int i = 0; i < 8; i++) {
            Check.tell(x, "" + (char) ('a' + i) + "<");
            taken -= 1 << (8 - i) % 8;
            Check.due("all but those", x.told(3), taken);
            Check.due("car of " + i, x.told(20 + i), NONE);
            Check.due("weight of " + i, x.told(10 + i), 90 + i);
        }
        Check.write(x, ">".repeat(60));
        Check.due("signs", x.told(0), 60);
        for (int i = 1; i <= 6; i++) {
            x.seen(0, 0);
            Check.due("sights", x.told(2), i);
        }
    }

    /** Promise 26: "OUTSIDE." */
    private static void toldBeyondItsNumbers() {
        FairWheel x = Check.told("A>B>C>D>E>F>G>H");
        for (int what = -30; what <= 60; what++) {
            boolean told = what >= 0 && what <= 3 || what >= 10 && what <= 17 || what >= 20 && what <= 27;
            Check.dueThat("told " + what, told == (x.told(what) != FairWheel.OUTSIDE));
        }
        for (int what : new int[] {FAR_BELOW, FAR_BELOW + 20, FAR - 7, FAR, 256, 266, 276}) {
            Check.due("told " + what, x.told(what), FairWheel.OUTSIDE);
        }
    }
}
