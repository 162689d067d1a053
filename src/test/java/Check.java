/** What the tests have in common: answers that are due, and texts said on a pad. */
final class Check {
    private static int wrong = 0;
    private static int made = 0;

    private Check() {
    }

    static void due(String call, long got, long want) {
        made++;
        if (got != want) {
            wrong++;
            System.out.println(call + " answered " + got + ", due is " + want);
        }
    }

    static void dueThat(String what, boolean holds) {
        due(what, holds ? 1 : 0, 1);
    }

    static void end() {
        System.out.println(made + " checks, " + wrong + " of them wrong");
        if (wrong != 0 || made == 0) {
            System.exit(1);
        }
    }

    static FairWheel wheel() {
        return new FairWheel();
    }

    /** The text stands alone on the pad then. */
    static FairWheel write(FairWheel x, String text) {
        x.wipe();
        for (int i = 0; i < text.length(); i++) {
            due("say in \"" + text + "\"", x.say(text.charAt(i)), i + 1);
        }
        return x;
    }

    static FairWheel tell(FairWheel x, String text) {
        write(x, text);
        due("done of \"" + text + "\"", x.done(), text.length());
        return x;
    }

    static FairWheel told(String text) {
        return tell(wheel(), text);
    }
}
