import java.util.NoSuchElementException;

/** Holds an answer against the one that is due; prints what differs. */
final class Check {
    private static int wrong = 0;
    private static int held = 0;

    private Check() {
    }

    static void same(String what, int got, int due) {
        held++;
        if (got != due) {
            wrong++;
            System.out.println(what + " answered " + got + ", due is " + due);
        }
    }

    static void so(String what, boolean got) {
        same(what, got ? 1 : 0, 1);
    }

    static void not(String what, boolean got) {
        same(what, got ? 1 : 0, 0);
    }

    /** Layer has to throw. */
    static void noLayer(NamesUnder x, int place, int layer, int what) {
        boolean thrown = false;
        try {
            x.layer(place, layer, what);
        } catch (NoSuchElementException e) {
            thrown = true;
        }
        so("layer(" + place + ", " + layer + ", " + what + ") throws", thrown);
    }

    static void end() {
        System.out.println(wrong == 0 ? held + " answers are as due" : wrong + " of " + held + " answers are not as due");
        if (wrong != 0) {
            System.exit(1);
        }
    }
}
