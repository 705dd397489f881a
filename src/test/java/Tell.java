import java.util.NoSuchElementException;

/** Short ways to tell an object something. */
final class Tell {
    static final int NONE = NamesUnder.NONE;
    static final int FIRST = 0;
    static final int OUT = 1;
    static final int HACKED = 2;
    static final int PUT_IN = 3;
    static final int MENDED = 4;

    private Tell() {
    }

    static int name(NamesUnder x, int name, String word, int reign, boolean she) {
        Signs.feed(x, word);
        return x.name(name, reign, she);
    }

    /** He, of REIGN 0. */
    static int name(NamesUnder x, int name, String word) {
        return name(x, name, word, 0, false);
    }

    /** An object whose NAMES from 0 on are these words, each he and of REIGN 0. */
    static NamesUnder named(String... words) {
        NamesUnder x = new NamesUnder();
        for (int i = 0; i < words.length; i++) {
            Check.same("name " + words[i], name(x, i, words[i]), 0);
        }
        return x;
    }

    /** A word of a WIDTH of 1 to 24; another one for each. */
    static String wide(int width) {
        return "m".repeat(width / 3) + new String[] {"", "i", "a"}[width % 3];
    }

    static int[] by(int hand, int doing, int name) {
        return new int[] {hand, doing, name};
    }

    /** A PLACE of HEIGHT 0, SORT 0, without GRAMMAR, with CUTS that have to lie there. */
    static void wall(NamesUnder x, int place, int space, int[]... cuts) {
        Check.so("place " + place, x.place(place, space, 0, 0, 0));
        pile(x, place, cuts);
    }

    static void pile(NamesUnder x, int place, int[]... cuts) {
        for (int[] c : cuts) {
            boolean lies = x.cut(place, c[0], c[1], c[2]) != NONE;
            Check.so("cut " + c[0] + " " + c[1] + " " + c[2] + " at " + place, lies);
        }
    }

    static int traces(NamesUnder x, int place, int layer, String text) {
        Signs.feed(x, text);
        return x.traces(place, layer);
    }

    static int order(NamesUnder x, int reign, String text) {
        Signs.feed(x, text);
        return x.order(reign);
    }

    static boolean hasLayer(NamesUnder x, int place, int layer, int what) {
        try {
            x.layer(place, layer, what);
            return true;
        } catch (NoSuchElementException e) {
            return false;
        }
    }
}
