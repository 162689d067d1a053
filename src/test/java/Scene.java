import java.util.ArrayList;
import java.util.List;

/** A wheel as it is told here; made anew as often as wanted, and looked at from all sides. */
final class Scene {
    final String name;
    final String pad;
    final int sights;
    final boolean fault;
    final boolean asked;
    final boolean canBe;
    private final String evening;
    private final int images;

    private Scene(String name, String evening, String pad, int sights, int images, String facts) {
        this.name = name;
        this.evening = evening;
        this.pad = pad;
        this.sights = sights;
        this.images = images;
        fault = facts.contains("fault");
        asked = facts.contains("asked");
        canBe = !facts.contains("can not be");
    }

    static List<Scene> all() {
        String some = "A5>B>>C12>>>9D<<";
        List<Scene> scenes = new ArrayList<>();
        scenes.add(new Scene("a new one", "", "", 0, 0, ""));
        scenes.add(new Scene("an empty pad", some, "", 1, 1, ""));
        scenes.add(new Scene("a text", some, ">>>>>>>E^3<^>", 2, 2, ""));
        scenes.add(new Scene("a full pad", some, "5" + ">".repeat(58) + "0", 5, 3, ""));
        scenes.add(new Scene("an event that can not be", some, ">>E5b", 6, 0, "can not be"));
        scenes.add(new Scene("a fault", some, ">>E!5", 6, 1, "fault"));
        scenes.add(new Scene("a fault and an event that can not be", some, "b!", 0, 2, "fault, can not be"));
        scenes.add(new Scene("asked", some, ">>?>?<<", 3, 3, "asked"));
        scenes.add(new Scene("asked, and an event that can not be", some, "a?", 1, 3, "asked, can not be"));
        scenes.add(new Scene("asked and a fault", some, "?>>~", 0, 0, "asked, fault"));
        scenes.add(new Scene("asked four times", some, "?>?>?>?", 6, 3, "asked, fault"));
        scenes.add(new Scene("a full pad of ?", "", "?".repeat(60), 6, 3, "asked, fault"));
        scenes.add(new Scene("a full wheel", "A>B>C>D>E>F>G>H9>>", "^5", 6, 3, ""));
        return scenes;
    }

    boolean isKept(int image) {
        return (images >> image & 1) == 1;
    }

    boolean isAboard(int person) {
        return evening.indexOf((char) ('A' + person)) >= 0;
    }

    FairWheel make() {
        FairWheel x = new FairWheel();
        x.weigh(1, 23);
        x.weigh(7, 99);
        x.drag(31);
        say(x, evening);
        x.done();
        for (int i = 0; i < sights; i++) {
            x.seen(i, 7 - i);
        }
        for (int image = 0; image < 2; image++) {
            if (isKept(image)) {
                x.image(image);
                x.weigh(6, 44 + image);
                say(x, ">5");
                x.done();
            }
        }
        say(x, pad);
        return x;
    }

    private static void say(FairWheel x, String text) {
        for (int i = 0; i < text.length(); i++) {
            x.say(text.charAt(i));
        }
    }

    /** All that can be seen of it: what its text comes to, and what comes back from its images; it is spent then. */
    static List<Long> seen(FairWheel x) {
        List<Long> found = new ArrayList<>();
        lookAtWheel(x, found);
        lookAtText(x, found);
        found.add((long) x.done());
        lookAtWheel(x, found);
        found.add((long) x.wipe());
        say(x, "?>?");
        for (int image = 0; image < 2; image++) {
            lookAtSights(x, found);
            found.add((long) x.restore(image));
            lookAtWheel(x, found);
        }
        lookAtSights(x, found);
        return found;
    }

    private static void lookAtWheel(FairWheel x, List<Long> found) {
        for (int what = 0; what < 28; what++) {
            found.add((long) x.told(what));
        }
        for (int car = 0; car < 8; car++) {
            found.add((long) x.car(car, 0));
            found.add((long) x.car(car, 1));
        }
        found.add((long) x.foot());
        found.add((long) x.pull());
        found.add((long) x.brake());
    }

    private static void lookAtText(FairWheel x, List<Long> found) {
        found.add((long) x.fault());
        for (int what = 0; what < 3; what++) {
            found.add((long) x.judge(what));
            found.add((long) x.behind(what));
        }
        for (int i = -1; i < 4; i++) {
            found.add((long) x.leftOut(i));
            found.add((long) x.filled(i));
        }
        found.add((long) x.could(0, x.foot(), 0));
    }

    private static void lookAtSights(FairWheel x, List<Long> found) {
        for (int i = -1; i < 2; i++) {
            found.add((long) x.filled(i));
        }
    }
}
