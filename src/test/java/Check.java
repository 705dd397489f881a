import java.nio.file.Files;
import java.nio.file.Path;
import java.util.NoSuchElementException;

/** Holds an answer against the one that is due; prints what differs. */
final class Check {
    private static final Path DOCUMENT = Path.of("..", "shared", "DOC.md");
    private static int wrong = 0;
    private static int held = 0;
    private static int sentences = 0;
    private static String document = null;
    private static String sentence = "";

    private Check() {
    }

    /** What is held from here on is held under these words of the document. */
    static void says(String words) {
        sentences++;
        sentence = "\"" + words + "\" ";
        so("these are words of the document", document().isEmpty() || document().contains(words));
    }

    /** The document with single blanks; empty if it can't be found from here. */
    static String document() {
        if (document == null) {
            document = readDocument();
        }
        return document;
    }

    private static String readDocument() {
        try {
            return Files.readString(DOCUMENT).replaceAll("\\s+", " ");
        } catch (java.io.IOException e) {
            System.out.println("no " + DOCUMENT + ": the tests are not held against it");
            return "";
        }
    }

    static void same(String what, int got, int due) {
        held++;
        if (got != due) {
            wrong++;
            System.out.println(sentence + what + " answered " + got + ", due is " + due);
        }
    }

    static void so(String what, boolean got) {
        same(what, got ? 1 : 0, 1);
    }

    static void not(String what, boolean got) {
        same(what, got ? 1 : 0, 0);
    }

    /** Layer has to throw. */
    static void noLayer(NamesUnder x, int place, int layer, int what) {
        boolean thrown = false;
        try {
            x.layer(place, layer, what);
        } catch (NoSuchElementException e) {
            thrown = true;
        }
        so("layer(" + place + ", " + layer + ", " + what + ") throws", thrown);
    }

    interface Taken {
        boolean isTaken(int value);
    }

    /** Values from .. to are taken; those right below, right above and far away are not. */
    static void range(String what, int from, int to, Taken call) {
        for (int value = from; value <= to; value++) {
            so(what + " " + value + " is taken", call.isTaken(value));
        }
        outside(what, from, to, call);
    }

    static void outside(String what, int from, int to, Taken call) {
        int[] values = {from - 1, from - 2, to + 1, to + 2, to + 3, -100, -32, from + 32, from + 64, from + 256,
            to + 256, from + (1 << 16), from + (1 << 30), Integer.MIN_VALUE, Integer.MIN_VALUE + 1,
            Integer.MIN_VALUE + from, Integer.MAX_VALUE, Integer.MAX_VALUE - 1};
        for (int value : values) {
            if (value < from || value > to) {
                not(what + " " + value + " is taken", call.isTaken(value));
            }
        }
    }

    static void end() {
        String of = sentences == 0 ? "" : ", under " + sentences + " sentences";
        System.out.println(wrong == 0 ? held + " answers are as due" + of : wrong + " of " + held + " answers are not as due");
        if (wrong != 0) {
            System.exit(1);
        }
    }
}
