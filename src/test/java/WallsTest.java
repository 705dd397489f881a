/** Promises 6 to 12: place, cut, clean, traces, layer, fits, crowded. */
public final class WallsTest {
    private static NamesUnder named(String... words) {
        NamesUnder x = new NamesUnder();
        for (int i = 0; i < words.length; i++) {
            Signs.feed(x, words[i]);
            x.name(i, 0, i % 2 == 1);
        }
        return x;
    }

    private static int trace(NamesUnder x, int place, int layer, String text) {
        Signs.feed(x, text);
        return x.traces(place, layer);
    }

    private static void place() {
        NamesUnder x = named("seti");
        Check.so("6: least", x.place(0, 1, 0, 0, 0));
        Check.so("6: most", x.place(11, 24, 99, 3, 2));
        int[][] wrong = {{-1, 1, 0, 0, 0}, {12, 1, 0, 0, 0}, {1, 0, 0, 0, 0}, {1, 25, 0, 0, 0}, {1, 1, -1, 0, 0}, {1, 1, 100, 0, 0},
            {1, 1, 0, -1, 0}, {1, 1, 0, 4, 0}, {1, 1, 0, 0, -1}, {1, 1, 0, 0, 3}, {1, Integer.MIN_VALUE, 0, 0, 0}};
        for (int[] w : wrong) {
            Check.not("6: place " + w[0] + " " + w[1] + " " + w[2] + " " + w[3] + " " + w[4],
                    x.place(w[0], w[1], w[2], w[3], w[4]));
        }
        Check.same("6: told", x.count(1), 2);
        x.cut(0, 0, 0, 0);
        x.cut(0, 1, 1, -1);
        Check.not("6: wrong changes nothing", x.place(0, 0, 0, 0, 0));
        Check.same("6: cuts stay", x.count(2), 2);
        Check.so("6: anew", x.place(0, 5, 0, 0, 0));
        Check.same("6: cuts gone", x.count(2), 0);
        Check.same("6: still two", x.count(1), 2);
        Check.same("6: first again", x.cut(0, 0, 0, 0), 0);
    }

    private static void cut() {
        NamesUnder x = named("seti", "teti");
        x.place(3, 6, 0, 0, 0);
        for (int doing = 1; doing < 5; doing++) {
            Check.same("7: first alone lies at the bottom " + doing, x.cut(3, 0, doing, -1), -1);
        }
        int[][] wrong = {{2, 0, 0, 0}, {-1, 0, 0, 0}, {12, 0, 0, 0}, {3, -1, 0, 0}, {3, 6, 0, 0}, {3, 0, -1, 0}, {3, 0, 5, 0},
            {3, 0, 0, 2}, {3, 0, 0, 8}, {3, 0, 0, -2}};
        for (int[] w : wrong) {
            Check.same("7: cut " + w[0] + " " + w[1] + " " + w[2] + " " + w[3], x.cut(w[0], w[1], w[2], w[3]), -1);
        }
        Check.same("7: first", x.cut(3, 5, 0, 0), 0);
        Check.same("7: first on first", x.cut(3, 0, 0, 0), -1);
        Check.same("7: put in on first", x.cut(3, 0, 3, 0), -1);
        Check.same("7: mended on first", x.cut(3, 0, 4, 0), -1);
        Check.same("7: out has no name", x.cut(3, 0, 1, 0), -1);
        Check.same("7: hacked has no name", x.cut(3, 0, 2, 0), -1);
        Check.same("7: out", x.cut(3, 0, 1, -1), 1);
        Check.same("7: out on out", x.cut(3, 0, 1, -1), -1);
        Check.same("7: hacked on out", x.cut(3, 0, 2, -1), -1);
        Check.same("7: first on out", x.cut(3, 0, 0, 0), -1);
        Check.same("7: no such doing", x.cut(3, 0, 5, -1), -1);
        Check.same("7: mended with another name", x.cut(3, 0, 4, 1), -1);
        Check.same("7: mended", x.cut(3, 0, 4, 0), 2);
        Check.same("7: put in on mended", x.cut(3, 0, 3, 0), -1);
        Check.same("7: hacked", x.cut(3, 0, 2, -1), 3);
        Check.same("7: put in", x.cut(3, 0, 3, 1), 4);
        Check.same("7: out again", x.cut(3, 0, 1, -1), 5);
        Check.same("7: six lie there", x.cut(3, 0, 3, 1), -1);
        Check.same("7: six lie there", x.count(2), 6);
    }

    private static void mendedName() {
        NamesUnder x = named("seti", "teti");
        x.place(0, 6, 0, 0, 0);
        x.cut(0, 0, 0, -1);
        x.cut(0, 0, 2, -1);
        Check.same("7: mended, below not known", x.cut(0, 0, 4, 1), 2);
        x.cut(0, 0, 2, -1);
        Check.same("7: mended of a mended one", x.cut(0, 0, 4, 0), -1);
        Check.same("7: mended, its name not known", x.cut(0, 0, 4, -1), 4);
        Check.same("10: not known", x.layer(0, 4, 2), -1);
    }

    private static void clean() {
        NamesUnder x = named("seti");
        Check.not("8: no place", x.clean(0));
        x.place(0, 6, 0, 0, 0);
        Check.not("8: no cut", x.clean(0));
        x.cut(0, 0, 0, 0);
        x.cut(0, 0, 1, -1);
        Check.so("8: top goes", x.clean(0));
        Check.same("8: one is left", x.count(2), 1);
        Check.same("8: the lowest is left", x.layer(0, 0, 1), 0);
        Check.so("8: and goes", x.clean(0));
        Check.not("8: none is left", x.clean(0));
        Check.not("8: no such", x.clean(12));
        Check.not("8: no such", x.clean(-1));
        Check.same("8: the place stays", x.count(1), 1);
    }

    private static void traces() {
        NamesUnder x = named("seti", "teti", "set", "hato");
        x.place(0, 8, 0, 0, 0);
        x.cut(0, 0, 0, -1);
        Check.same("9: nothing over it", trace(x, 0, 0, "s..."), -1);
        x.cut(0, 1, 2, -1);
        Check.same("9: hacked over it", trace(x, 0, 0, "s..."), -1);
        x.clean(0);
        x.cut(0, 1, 1, -1);
        x.clean(0);
        Check.same("9: the out over it is gone", trace(x, 0, 0, "s..."), -1);
        x.cut(0, 1, 1, -1);
        Check.same("9: an out one", trace(x, 0, 1, "s..."), -1);
        Check.same("9: no such layer", trace(x, 0, 2, "s..."), -1);
        Check.same("9: no such layer", trace(x, 0, -1, "s..."), -1);
        Check.same("9: no such layer", trace(x, 0, Integer.MAX_VALUE, "s..."), -1);
        Check.same("9: no such place", trace(x, 1, 0, "s..."), -1);
        Check.same("9: tape is empty", x.count(6), 0);
        Check.same("9: not told", x.fits(0, 0), 15);
        Check.same("9: none", trace(x, 0, 0, ""), 1);
        Check.same("9: nine", trace(x, 0, 0, "........."), 1);
        Check.same("9: a blank within", trace(x, 0, 0, ". ."), 1);
        Check.same("9: a digit", trace(x, 0, 0, "s.1."), 1);
        Check.same("9: tape is empty", x.count(6), 0);
        Check.same("9: still not told", x.fits(0, 0), 15);
        Check.same("9: eight", trace(x, 0, 0, "........"), 0);
        Check.same("9: none has eight", x.fits(0, 0), 0);
        Check.same("9: blanks around", trace(x, 0, 0, "\n .e.. "), 0);
        Check.same("9: e second", x.fits(0, 0), 3);
        Check.same("9: wrong ones change nothing", trace(x, 0, 0, "?"), 1);
        Check.same("9: e second still", x.fits(0, 0), 3);
        trace(x, 0, 0, "...");
        Check.same("9: three letters", x.fits(0, 0), 4);
    }

    private static void tracesGo() {
        NamesUnder x = named("seti", "teti");
        x.place(0, 6, 0, 0, 0);
        x.cut(0, 0, 0, -1);
        x.cut(0, 1, 1, -1);
        trace(x, 0, 0, "s...");
        x.cut(0, 2, 3, -1);
        Check.same("9: stay below others", x.fits(0, 0), 1);
        Check.same("9: put in has none", x.fits(0, 2), 3);
        x.clean(0);
        Check.same("9: stay when the put in goes", x.fits(0, 0), 1);
        x.clean(0);
        Check.same("9: gone with the out", x.fits(0, 0), 3);
        x.cut(0, 1, 1, -1);
        Check.same("9: not back with another out", x.fits(0, 0), 3);
        trace(x, 0, 0, "t...");
        x.place(0, 6, 0, 0, 0);
        x.cut(0, 0, 0, -1);
        x.cut(0, 1, 1, -1);
        Check.same("9: gone with the place", x.fits(0, 0), 3);
    }

    private static void layer() {
        NamesUnder x = named("seti", "teti");
        Check.noLayer(x, 0, 0, 0);
        x.place(0, 6, 0, 0, 0);
        Check.noLayer(x, 0, 0, 0);
        x.cut(0, 3, 0, 1);
        x.cut(0, 5, 2, -1);
        Check.same("10: hand", x.layer(0, 0, 0), 3);
        Check.same("10: doing", x.layer(0, 0, 1), 0);
        Check.same("10: name", x.layer(0, 0, 2), 1);
        Check.same("10: hand", x.layer(0, 1, 0), 5);
        Check.same("10: doing", x.layer(0, 1, 1), 2);
        Check.same("10: no name", x.layer(0, 1, 2), -1);
        int[][] wrong = {{0, 2, 0}, {0, -1, 0}, {0, 0, 3}, {0, 0, -1}, {1, 0, 0}, {12, 0, 0}, {-1, 0, 0},
            {0, Integer.MIN_VALUE, 0}, {0, Integer.MAX_VALUE, 0}};
        for (int[] w : wrong) {
            Check.noLayer(x, w[0], w[1], w[2]);
        }
    }

    private static void fits() {
        // Widths: aa 4, aaa 6, aaaa 8, aaaaa 10; the second and the fourth are she.
        NamesUnder x = named("aa", "aaa", "aaaa", "aaaaa");
        x.place(0, 8, 0, 0, 0);
        x.cut(0, 0, 0, -1);
        Check.same("11: first, 4 to 8", x.fits(0, 0), 7);
        x.place(0, 9, 0, 0, 0);
        x.cut(0, 0, 0, -1);
        Check.same("11: first, 5 to 9", x.fits(0, 0), 6);
        x.place(0, 8, 0, 0, 1);
        x.cut(0, 0, 0, -1);
        Check.same("11: first, he", x.fits(0, 0), 5);
        x.place(0, 8, 0, 0, 2);
        x.cut(0, 0, 0, -1);
        Check.same("11: first, she", x.fits(0, 0), 2);
        x.cut(0, 0, 1, -1);
        Check.same("11: out", x.fits(0, 1), -1);
        x.cut(0, 0, 3, -1);
        Check.same("11: put in, up to 10, grammar is nothing", x.fits(0, 2), 15);
        x.place(1, 7, 0, 0, 0);
        x.cut(1, 0, 0, 3);
        Check.same("11: known but too wide", x.fits(1, 0), 0);
        x.cut(1, 0, 2, -1);
        x.cut(1, 0, 3, -1);
        Check.same("11: put in, up to 9", x.fits(1, 2), 7);
        x.cut(1, 0, 2, -1);
        x.cut(1, 0, 3, 1);
        Check.same("11: known", x.fits(1, 4), 2);
        Check.same("11: none such", x.fits(1, 5), -1);
        Check.same("11: none such", x.fits(1, -1), -1);
        Check.same("11: none such", x.fits(2, 0), -1);
        Check.same("11: none such", x.fits(12, 0), -1);
    }

    private static void fitsMended() {
        NamesUnder x = named("aa", "aaa", "aaaa", "aaaaa");
        x.place(0, 8, 0, 0, 1);
        x.cut(0, 0, 0, -1);
        x.cut(0, 0, 1, -1);
        x.cut(0, 0, 4, -1);
        Check.same("11: mended as the first one", x.fits(0, 2), 5);
        trace(x, 0, 0, "....");
        Check.same("11: its traces, too", x.fits(0, 2), 4);
        x.cut(0, 0, 1, -1);
        x.cut(0, 0, 4, 2);
        Check.same("11: mended twice", x.fits(0, 4), 4);
        trace(x, 0, 2, "..");
        Check.same("11: of the mended one between", x.fits(0, 4), 0);
        Check.same("11: below that it is as it was", x.fits(0, 0), 4);
        x.place(1, 8, 0, 0, 1);
        x.cut(1, 0, 0, 0);
        x.cut(1, 0, 1, -1);
        x.cut(1, 0, 4, -1);
        Check.same("11: mended, the name below is known", x.fits(1, 2), 1);
        x.place(1, 8, 0, 0, 0);
        x.cut(1, 0, 0, -1);
        x.cut(1, 0, 1, -1);
        x.cut(1, 0, 4, 1);
        Check.same("11: the name of the mended one", x.fits(1, 2), 2);
        Check.same("11: says nothing of the one below", x.fits(1, 0), 7);
    }

    private static void crowded() {
        NamesUnder x = named("aa", "aaa", "aaaa", "mmm");
        x.place(0, 6, 0, 0, 0);
        Check.same("12: narrow", x.crowded(0, 0), 0);
        Check.same("12: as wide", x.crowded(0, 1), 0);
        Check.same("12: two above", x.crowded(0, 2), 1);
        Check.same("12: three above", x.crowded(0, 3), 2);
        Check.same("12: no name", x.crowded(0, 4), -1);
        Check.same("12: no name", x.crowded(0, -1), -1);
        Check.same("12: no name", x.crowded(0, 8), -1);
        Check.same("12: no place", x.crowded(1, 0), -1);
        Check.same("12: no place", x.crowded(12, 0), -1);
    }

    public static void main(String[] args) {
        place();
        cut();
        mendedName();
        clean();
        traces();
        tracesGo();
        layer();
        fits();
        fitsMended();
        crowded();
        Check.end();
    }
}
