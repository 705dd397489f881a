/** Sentences about PLACES, CUTS, TRACES and what FITS that tell a boundary: promises 6 to 12. */
public final class EdgesWallsTest {
    private static final int NONE = NamesUnder.NONE;
    private static final int FIRST = Tell.FIRST;
    private static final int OUT = Tell.OUT;
    private static final int HACKED = Tell.HACKED;
    private static final int PUT_IN = Tell.PUT_IN;
    private static final int MENDED = Tell.MENDED;

    private static void placeRanges() {
        Check.says("PLACES 0 to 11, when they are told, have a SPACE (1 to 24), a HEIGHT (0 to 99), a SORT (0 to 3), "
                + "a GRAMMAR left there (0 none, 1 he, 2 she; of what stood first).");
        Check.range("place", 0, 11, v -> new NamesUnder().place(v, 1, 0, 0, 0));
        Check.range("space", 1, 24, v -> new NamesUnder().place(0, v, 0, 0, 0));
        Check.range("height", 0, 99, v -> new NamesUnder().place(0, 1, v, 0, 0));
        Check.range("sort", 0, 3, v -> new NamesUnder().place(0, 1, 0, v, 0));
        Check.range("grammar", 0, 2, v -> new NamesUnder().place(0, 1, 0, 0, v));
        NamesUnder x = new NamesUnder();
        for (int i = 0; i < 12; i++) {
            Check.same("told so far", x.count(1), i);
            Check.same("cut at " + i + " before it is told", x.cut(i, 0, FIRST, NONE), NONE);
            Check.so("the greatest of " + i, x.place(i, 24, 99, 3, 2));
            Check.same("cut at " + i, x.cut(i, 0, FIRST, NONE), 0);
        }
        Check.same("all", x.count(1), 12);
    }

    private static void placeAnew() {
        Check.says("A PLACE, anew (its CUTS are gone): true; false: others.");
        for (int size = 0; size <= 6; size++) {
            NamesUnder x = full(size);
            int[][] wrong = {{0, 0, 0, 0, 0}, {0, 25, 0, 0, 0}, {0, 9, -1, 0, 0}, {0, 9, 100, 0, 0},
                {0, 9, 0, -1, 0}, {0, 9, 0, 4, 0}, {0, 9, 0, 0, -1}, {0, 9, 0, 0, 3}, {-1, 9, 0, 0, 0}, {12, 9, 0, 0, 0}};
            for (int[] w : wrong) {
                Check.not("wrong " + w[0] + " " + w[1] + " " + w[2] + " " + w[3] + " " + w[4],
                        x.place(w[0], w[1], w[2], w[3], w[4]));
                Check.same("cuts stay", x.count(2), size);
            }
            Check.same("narrow as before", x.crowded(0, 0), 0);
            Check.so("anew", x.place(0, 1, 0, 0, 0));
            Check.same("cuts are gone", x.count(2), 0);
            Check.not("no layer", Tell.hasLayer(x, 0, 0, 0));
            Check.same("of its new space", x.crowded(0, 0), 2);
            Check.same("still one place", x.count(1), 1);
            Check.same("first again", x.cut(0, 5, FIRST, 0), 0);
        }
        NamesUnder x = full(2);
        Tell.traces(x, 0, 0, "t...");
        Check.same("by its traces", x.fits(0, 0), 0);
        Tell.wall(x, 0, 6, Tell.by(0, FIRST, 0), Tell.by(0, OUT, NONE));
        Check.same("they are gone, too", x.fits(0, 0), 1);
    }

    /** PLACE 0 of SPACE 6 with so many CUTS of hati by HAND 0: FIRST, OUT, PUT IN, OUT, MENDED, HACKED. */
    private static NamesUnder full(int size) {
        NamesUnder x = Tell.named("hati", "hato");
        int[] doings = {FIRST, OUT, PUT_IN, OUT, MENDED, HACKED};
        x.place(0, 6, 0, 0, 0);
        for (int i = 0; i < size; i++) {
            boolean named = doings[i] != OUT && doings[i] != HACKED;
            Check.same("its layer", x.cut(0, 0, doings[i], named ? 0 : NONE), i);
        }
        return x;
    }

    private static void sixCuts() {
        Check.says("CUTS lie one over another at a PLACE, 6 at most, the lowest is LAYER 0.");
        for (int size = 0; size <= 6; size++) {
            NamesUnder x = full(size);
            Check.same("so many", x.count(2), size);
            for (int i = 0; i <= 7; i++) {
                Check.same("layer " + i, Tell.hasLayer(x, 0, i, 0) ? 1 : 0, i < size ? 1 : 0);
            }
        }
        for (int top : new int[] {OUT, HACKED}) {
            NamesUnder x = full(5);
            Check.same("the sixth", x.cut(0, 0, top, NONE), 5);
            for (int doing = 0; doing < 5; doing++) {
                Check.same("a seventh of " + doing, x.cut(0, 0, doing, NONE), NONE);
            }
            Check.same("six", x.count(2), 6);
            x.clean(0);
            Check.same("the sixth again", x.cut(0, 0, top, NONE), 5);
            x.place(1, 6, 0, 0, 0);
            Check.same("at another place", x.cut(1, 0, FIRST, 0), 0);
        }
    }

    private static void cutRanges() {
        Check.says("A CUT on top: its LAYER; NONE: no such PLACE told, HAND, DOING, NAME (NONE: not known; of 1, 2 NONE alone)");
        Check.range("place", 0, 11, EdgesWallsTest::cutsAt);
        Check.range("hand", 0, 5, v -> full(0).cut(0, v, FIRST, 0) == 0);
        Check.range("hand of out", 0, 5, v -> full(1).cut(0, v, OUT, NONE) == 1);
        Check.range("name", -1, 1, v -> full(0).cut(0, 0, FIRST, v) == 0);
        Check.range("name put in", -1, 1, v -> full(2).cut(0, 0, PUT_IN, v) == 2);
        Check.range("name of out", -1, -1, v -> full(1).cut(0, 0, OUT, v) == 1);
        Check.range("name of hacked", -1, -1, v -> full(3).cut(0, 0, HACKED, v) == 3);
        Check.range("doing at the bottom", 0, 0, v -> full(0).cut(0, 0, v, NONE) == 0);
        Check.range("doing on first", 1, 2, v -> full(1).cut(0, 0, v, NONE) == 1);
        Check.range("doing on out", 3, 4, v -> full(2).cut(0, 0, v, NONE) == 2);
        NamesUnder x = full(2);
        for (int i = 2; i < 8; i++) {
            Check.same("not told " + i, x.cut(0, 0, PUT_IN, i), NONE);
        }
        Tell.name(x, 7, "last");
        Check.same("told", x.cut(0, 0, PUT_IN, 7), 2);
        Check.same("and kept", x.layer(0, 2, 2), 7);
    }

    private static void whatACutHas() {
        Check.says("A CUT is by a HAND (0 to 5), a DOING: 0 FIRST, 1 OUT along an edge, 2 HACKED out, 3 PUT IN, 4 MENDED; of 0, 3 and 4 it "
                + "has a NAME, or one not known (NONE); of 1, 2 none.");
        for (int hand = 0; hand < 6; hand++) {
            for (int doing = 0; doing < 5; doing++) {
                for (int name = -1; name < 2; name++) {
                    NamesUnder x = Tell.named("hati", "hato");
                    Tell.wall(x, 0, 6);
                    int layer = doing == FIRST ? 0 : doing <= HACKED ? 1 : 2;
                    if (layer > 0) {
                        x.cut(0, 0, FIRST, NONE);
                    }
                    if (layer > 1) {
                        x.cut(0, 0, OUT, NONE);
                    }
                    boolean has = name == NONE || layer != 1;
                    Check.same("cut " + hand + " " + doing + " " + name, x.cut(0, hand, doing, name), has ? layer : NONE);
                    Check.same("so many", x.count(2), has ? layer + 1 : layer);
                    if (has) {
                        Check.same("hand", x.layer(0, layer, 0), hand);
                        Check.same("doing", x.layer(0, layer, 1), doing);
                        Check.same("name", x.layer(0, layer, 2), name);
                    }
                }
            }
        }
    }

    private static void refusedCuts() {
        Check.says("6 lie there, it does not LIE so, a MENDED NAME that is not that below.");
        NamesUnder x = full(6);
        Check.same("six lie there", x.cut(0, 0, PUT_IN, 0), NONE);
        Check.same("six lie there", x.cut(0, 0, MENDED, 0), NONE);
        x.clean(0);
        Check.same("it does not lie so", x.cut(0, 0, PUT_IN, 0), NONE);
        Check.same("it does not lie so", x.cut(0, 0, MENDED, 0), NONE);
        Check.same("it does not lie so", x.cut(0, 0, FIRST, 0), NONE);
        x.clean(0);
        Check.same("a mended name not that below", x.cut(0, 0, MENDED, 1), NONE);
        Check.same("four are left", x.count(2), 4);
        Check.same("that below", x.cut(0, 0, MENDED, 0), 4);
    }

    /** Whether a CUT lies at a PLACE of which all others are told, too. */
    private static boolean cutsAt(int place) {
        NamesUnder x = new NamesUnder();
        for (int i = 0; i < 12; i++) {
            x.place(i, 6, 0, 0, 0);
        }
        return x.cut(place, 0, FIRST, NONE) == 0 && Tell.hasLayer(x, place, 0, 0) && x.count(2) == 1;
    }

    /** A PLACE whose topmost CUT is of this DOING, with a CUT of each DOING to lie on it. */
    private static void liesOn(int top, boolean... due) {
        int[][] below = {{}, {FIRST}, {FIRST, OUT}, {FIRST, HACKED}, {FIRST, OUT, PUT_IN}, {FIRST, HACKED, MENDED},
            {FIRST, OUT, PUT_IN, HACKED}, {FIRST, HACKED, MENDED, OUT}};
        for (int[] pile : below) {
            boolean wanted = pile.length == 0 ? top == NONE : pile[pile.length - 1] == top;
            for (int doing = 0; wanted && doing < 5; doing++) {
                NamesUnder x = new NamesUnder();
                x.place(0, 6, 0, 0, 0);
                for (int i = 0; i < pile.length; i++) {
                    Check.same("pile", x.cut(0, 0, pile[i], NONE), i);
                }
                Check.same(doing + " on " + top, x.cut(0, 0, doing, NONE), due[doing] ? pile.length : NONE);
                Check.same("cuts", x.count(2), pile.length + (due[doing] ? 1 : 0));
            }
        }
    }

    private static void liesSo() {
        Check.says("It LIES so: FIRST as LAYER 0 alone; OUT and HACKED on one of 0, 3, 4; PUT IN and MENDED on OUT or HACKED.");
        liesOn(NONE, true, false, false, false, false);
        liesOn(FIRST, false, true, true, false, false);
        liesOn(OUT, false, false, false, true, true);
        liesOn(HACKED, false, false, false, true, true);
        liesOn(PUT_IN, false, true, true, false, false);
        liesOn(MENDED, false, true, true, false, false);
    }

    private static void mendedNames() {
        Check.says("What a MENDED one has for a NAME is that of the CUT below the one below it (if both are known).");
        for (int gone : new int[] {OUT, HACKED}) {
            for (int below = -1; below < 2; below++) {
                for (int name = -1; name < 2; name++) {
                    NamesUnder x = Tell.named("hati", "hato");
                    Tell.wall(x, 0, 6, Tell.by(0, FIRST, below), Tell.by(0, gone, NONE));
                    boolean due = below == NONE || name == NONE || below == name;
                    Check.same("mended " + name + " over " + below, x.cut(0, 0, MENDED, name), due ? 2 : NONE);
                    if (due) {
                        Check.same("as told", x.layer(0, 2, 2), name);
                    }
                }
            }
        }
        NamesUnder x = Tell.named("hati", "hato");
        Tell.wall(x, 0, 6, Tell.by(0, FIRST, 0), Tell.by(0, OUT, NONE), Tell.by(0, PUT_IN, 1), Tell.by(0, OUT, NONE));
        Check.same("that of the first one", x.cut(0, 0, MENDED, 0), NONE);
        Check.same("that of the one put in", x.cut(0, 0, MENDED, 1), 4);
        Tell.wall(x, 1, 6, Tell.by(0, FIRST, 0), Tell.by(0, OUT, NONE), Tell.by(0, MENDED, NONE), Tell.by(0, OUT, NONE));
        Check.same("one told as not known is not known", x.cut(1, 0, MENDED, 1), 4);
        Tell.wall(x, 2, 6, Tell.by(0, FIRST, NONE), Tell.by(0, OUT, NONE), Tell.by(0, MENDED, 1), Tell.by(0, OUT, NONE));
        Check.same("not that of the mended one below", x.cut(2, 0, MENDED, 0), NONE);
    }

    private static void topmostGoes() {
        Check.says("The topmost CUT goes: true; false: none.");
        for (int size = 0; size <= 6; size++) {
            NamesUnder x = full(size);
            for (int left = size; left > 0; left--) {
                Check.so("one of " + left, x.clean(0));
                Check.same("left", x.count(2), left - 1);
                Check.not("its layer", Tell.hasLayer(x, 0, left - 1, 0));
                Check.so("the one below", left == 1 || Tell.hasLayer(x, 0, left - 2, 0));
            }
            Check.not("none is left", x.clean(0));
            Check.same("the place stays", x.count(1), 1);
            Check.same("first again", x.cut(0, 0, FIRST, 0), 0);
        }
        Check.range("place", 0, 0, v -> full(6).clean(v));
        Check.range("place of twelve", 0, 11, v -> twelve().clean(v));
    }

    private static NamesUnder twelve() {
        NamesUnder x = Tell.named("hati", "hato");
        for (int i = 0; i < 12; i++) {
            Tell.wall(x, i, 6, Tell.by(0, FIRST, 0));
        }
        return x;
    }

    private static void tracesRead() {
        Check.says("The TAPE is read as TRACES of a CUT: letters and full stops (none to be seen), 1 to 8, blanks around are "
                + "nothing: 0; 1: it is not so");
        for (int size = 0; size <= 12; size++) {
            int due = size >= 1 && size <= 8 ? 0 : 1;
            Check.same("stops " + size, Tell.traces(full(2), 0, 0, ".".repeat(size)), due);
            Check.same("letters " + size, Tell.traces(full(2), 0, 0, "z".repeat(size)), due);
            Check.same("blanks around " + size, Tell.traces(full(2), 0, 0, "\n " + "a".repeat(size) + " \n"), due);
        }
        for (char c = 33; c <= 126; c++) {
            int due = (c >= 'a' && c <= 'z') || c == '.' ? 0 : 1;
            Check.same("alone " + c, Tell.traces(full(2), 0, 0, "" + c), due);
            Check.same("first " + c, Tell.traces(full(2), 0, 0, c + ".a"), due);
            Check.same("last " + c, Tell.traces(full(2), 0, 0, "......." + c), due);
        }
        for (String s : new String[] {". .", "h\na", ". .......", "", " ", "\n"}) {
            Check.same("'" + s + "'", Tell.traces(full(2), 0, 0, s), 1);
        }
        Check.same("at the tape's end", Tell.traces(full(2), 0, 0, " ".repeat(992) + "hati...."), 0);
    }

    private static void noSuchTraces() {
        Check.says("NONE: no such CUT of 0, 3, 4 with OUT right over it (the TAPE is empty in any case).");
        Check.range("layer", 0, 0, v -> Tell.traces(full(2), 0, v, "....") == 0);
        Check.range("place", 0, 0, v -> Tell.traces(full(2), v, 0, "....") == 0);
        int[] due = {0, NONE, 0, NONE, NONE, NONE, NONE};
        for (int layer = 0; layer < 7; layer++) {
            NamesUnder x = full(6);
            Check.same("layer " + layer + " of six", Tell.traces(x, 0, layer, "...."), due[layer]);
            Check.same("the tape", x.count(6), 0);
            Check.same("not so, layer " + layer, Tell.traces(x, 0, layer, "?"), due[layer] == 0 ? 1 : NONE);
            Check.same("the tape", x.count(6), 0);
        }
        NamesUnder x = full(5);
        x.cut(0, 0, OUT, NONE);
        Check.same("mended with out right over it", Tell.traces(x, 0, 4, "...."), 0);
        x.clean(0);
        Check.same("with nothing over it", Tell.traces(x, 0, 4, "...."), NONE);
        x.cut(0, 0, HACKED, NONE);
        Check.same("with hacked over it", Tell.traces(x, 0, 4, "...."), NONE);
        NamesUnder y = Tell.named("hati");
        Tell.wall(y, 0, 6, Tell.by(0, FIRST, 0), Tell.by(0, HACKED, NONE), Tell.by(0, PUT_IN, 0), Tell.by(0, OUT, NONE));
        Check.same("out, but not right over it", Tell.traces(y, 0, 0, "...."), NONE);
        Check.same("the one put in", Tell.traces(y, 0, 2, "...."), 0);
        Check.same("a place not told", Tell.traces(y, 1, 0, "...."), NONE);
    }

    private static void tracesGone() {
        Check.says("TRACES of a CUT of 0, 3 or 4 on which OUT lies (gone with that one)");
        NamesUnder x = Tell.named("hati", "tuti");
        Tell.wall(x, 0, 6, Tell.by(0, FIRST, NONE), Tell.by(0, OUT, NONE), Tell.by(0, PUT_IN, NONE),
                Tell.by(0, OUT, NONE), Tell.by(0, MENDED, NONE), Tell.by(0, OUT, NONE));
        Tell.traces(x, 0, 0, "h...");
        Tell.traces(x, 0, 2, "t...");
        Tell.traces(x, 0, 4, "..t.");
        Check.same("of all three", x.fits(0, 0) + 10 * x.fits(0, 2) + 100 * x.fits(0, 4), 221);
        Tell.traces(x, 0, 4, "h...");
        Check.same("of the mended one and the one below", x.fits(0, 4), 0);
        x.clean(0);
        Check.same("gone with the topmost out", x.fits(0, 4), 2);
        x.cut(0, 0, OUT, NONE);
        Check.same("not there with another out", x.fits(0, 4), 2);
        x.clean(0);
        x.clean(0);
        Check.same("the one put in has them", x.fits(0, 2), 2);
        x.clean(0);
        Check.same("gone with its out", x.fits(0, 2), 3);
        x.clean(0);
        Check.same("the first one has them", x.fits(0, 0), 1);
        x.clean(0);
        Check.same("gone with its out", x.fits(0, 0), 3);
    }

    private static void refusedTraces() {
        Check.says("1: it is not so");
        NamesUnder x = Tell.named("hati", "tuti");
        Tell.wall(x, 0, 6, Tell.by(0, FIRST, NONE), Tell.by(0, OUT, NONE));
        for (String s : new String[] {"", "t t", "t........", "t.1.", "T..."}) {
            Check.same("'" + s + "'", Tell.traces(x, 0, 0, s), 1);
            Check.same("none are told by that", x.fits(0, 0), 3);
        }
        Tell.traces(x, 0, 0, "h...");
        for (String s : new String[] {"", "t t", "t........", "t.1.", "T..."}) {
            Check.same("'" + s + "'", Tell.traces(x, 0, 0, s), 1);
            Check.same("the old ones stay", x.fits(0, 0), 1);
        }
        Check.same("in place of them", Tell.traces(x, 0, 0, "t..."), 0);
        Check.same("in place of them", x.fits(0, 0), 2);
    }

    private static void noSuchLayer() {
        Check.says("Of a CUT, what 0: HAND, 1: DOING, 2: NAME. NoSuchElementException: none such.");
        NamesUnder x = Tell.named("hati", "hato");
        Tell.wall(x, 11, 6, Tell.by(5, FIRST, 1), Tell.by(4, HACKED, NONE), Tell.by(3, PUT_IN, 0),
                Tell.by(2, OUT, NONE), Tell.by(1, MENDED, NONE), Tell.by(0, OUT, NONE));
        int[][] due = {{5, 0, 1}, {4, 2, -1}, {3, 3, 0}, {2, 1, -1}, {1, 4, -1}, {0, 1, -1}};
        for (int layer = 0; layer < 6; layer++) {
            for (int what = 0; what < 3; what++) {
                Check.same("layer " + layer + " what " + what, x.layer(11, layer, what), due[layer][what]);
            }
        }
        Check.range("what", 0, 2, v -> Tell.hasLayer(x, 11, 5, v));
        Check.range("layer", 0, 5, v -> Tell.hasLayer(x, 11, v, 2));
        Check.range("place", 11, 11, v -> Tell.hasLayer(x, v, 0, 0));
        for (int size = 0; size <= 6; size++) {
            NamesUnder y = full(size);
            int most = size - 1;
            Check.range("layer of " + size, 0, most, v -> Tell.hasLayer(y, 0, v, 0));
        }
        NamesUnder z = new NamesUnder();
        Check.noLayer(z, 0, 0, 0);
        z.place(0, 6, 0, 0, 0);
        Check.noLayer(z, 0, 0, 0);
    }

    /** NAMES of WIDTHS right around a SPACE less 4 and a SPACE; the bits of those that are between two WIDTHS. */
    private static int widthsAround(NamesUnder x, int space, int from, int to) {
        int[] off = {-5, -4, -3, -1, 0, 1, 2, 3};
        int bits = 0;
        for (int i = 0; i < 8; i++) {
            int width = space + off[i];
            if (width >= 1 && width <= 24) {
                Check.same("name", Tell.name(x, i, Tell.wide(width), 0, i % 2 == 1), 0);
                bits |= width >= from && width <= to ? 1 << i : 0;
            }
        }
        return bits;
    }

    private static void firstWidths() {
        Check.says("of FIRST: its WIDTH is not above the SPACE, not less than the SPACE less 4");
        for (int space = 1; space <= 24; space++) {
            NamesUnder x = new NamesUnder();
            int due = widthsAround(x, space, space - 4, space);
            Tell.wall(x, 0, space, Tell.by(0, FIRST, NONE));
            Check.same("not known, space " + space, x.fits(0, 0), due);
            for (int i = 0; i < 8; i++) {
                if (x.known(i, 0) != NONE) {
                    Tell.wall(x, 1, space, Tell.by(0, FIRST, i));
                    Check.same("known " + i + ", space " + space, x.fits(1, 0), due & 1 << i);
                }
            }
        }
    }

    private static void firstGrammar() {
        Check.says("and the GRAMMAR (if any) is its");
        for (int space = 5; space <= 23; space += 6) {
            int[] dues = {0b011110, 0b010100, 0b001010};
            for (int grammar = 0; grammar < 3; grammar++) {
                NamesUnder x = new NamesUnder();
                widthsAround(x, space, 1, 24);
                x.place(0, space, 0, 0, grammar);
                x.cut(0, 0, FIRST, NONE);
                Check.same("grammar " + grammar + " space " + space, x.fits(0, 0), dues[grammar]);
            }
        }
        for (boolean she : new boolean[] {false, true}) {
            for (int grammar = 0; grammar < 3; grammar++) {
                NamesUnder x = new NamesUnder();
                Tell.name(x, 0, "hati", 0, she);
                x.place(0, 6, 0, 0, grammar);
                boolean due = grammar == 0 || she == (grammar == 2);
                x.cut(0, 0, FIRST, 0);
                Check.same("known, she " + she + " grammar " + grammar, x.fits(0, 0), due ? 1 : 0);
                x.cut(0, 0, OUT, NONE);
                x.cut(0, 0, PUT_IN, 0);
                Check.same("put in has none", x.fits(0, 2), 1);
            }
        }
    }

    private static void putInWidths() {
        Check.says("of PUT IN its WIDTH is not above the SPACE and 2 (CROWDED if it is above the SPACE)");
        for (int space = 1; space <= 24; space++) {
            for (int gone : new int[] {OUT, HACKED}) {
                NamesUnder x = new NamesUnder();
                int due = widthsAround(x, space, 1, space + 2);
                Tell.wall(x, 0, space, Tell.by(0, FIRST, NONE), Tell.by(0, gone, NONE), Tell.by(0, PUT_IN, NONE));
                Check.same("space " + space, x.fits(0, 2), due);
            }
        }
        NamesUnder x = Tell.named("i");
        Tell.wall(x, 0, 24, Tell.by(0, FIRST, NONE), Tell.by(0, OUT, NONE), Tell.by(0, PUT_IN, NONE));
        Check.same("the narrowest in the widest", x.fits(0, 2), 1);
        Check.same("which can't have been first", x.fits(0, 0), 0);
    }

    private static void mendedFits() {
        Check.says("of MENDED: it FITS the CUT below the one below.");
        for (int space = 3; space <= 24; space += 7) {
            NamesUnder x = new NamesUnder();
            int first = widthsAround(x, space, space - 4, space);
            int put = widthsAround(x, space, 1, space + 2);
            Tell.wall(x, 0, space, Tell.by(0, FIRST, NONE), Tell.by(0, OUT, NONE), Tell.by(0, MENDED, NONE),
                    Tell.by(0, OUT, NONE), Tell.by(0, MENDED, NONE));
            Check.same("as the first one", x.fits(0, 2), first);
            Check.same("twice", x.fits(0, 4), first);
            Tell.wall(x, 0, space, Tell.by(0, FIRST, NONE), Tell.by(0, OUT, NONE), Tell.by(0, PUT_IN, NONE),
                    Tell.by(0, OUT, NONE), Tell.by(0, MENDED, NONE));
            Check.same("as the one put in", x.fits(0, 4), put);
        }
        NamesUnder x = Tell.named("hati", "tuti", "hatim");
        Tell.wall(x, 0, 6, Tell.by(0, FIRST, 0), Tell.by(0, OUT, NONE), Tell.by(0, MENDED, NONE));
        Check.same("the name below is known", x.fits(0, 2), 1);
        Tell.wall(x, 0, 6, Tell.by(0, FIRST, NONE), Tell.by(0, OUT, NONE), Tell.by(0, MENDED, 2));
        Check.same("known, but too wide below", x.fits(0, 2), 0);
        x.place(0, 6, 0, 0, 2);
        Tell.pile(x, 0, Tell.by(0, FIRST, NONE), Tell.by(0, OUT, NONE), Tell.by(0, MENDED, NONE));
        Check.same("by the grammar of the first one", x.fits(0, 2), 0);
    }

    private static void tracesFit() {
        Check.says("TRACES, if told: as many letters, and each that is seen the same");
        NamesUnder x = Tell.named("hat", "hati", "hatit", "tuti");
        Tell.wall(x, 0, 7, Tell.by(0, FIRST, NONE), Tell.by(0, OUT, NONE));
        Check.same("not told", x.fits(0, 0), 15);
        String[] texts = {"...", "....", ".....", "..", "......", "h...", "t...", "...i", "...t", ".a..", "hati", "hatx", "h..i", "t..i", "........", "."};
        int[] due = {1, 10, 4, 0, 0, 2, 8, 10, 0, 2, 2, 0, 2, 8, 0, 0};
        for (int i = 0; i < texts.length; i++) {
            Check.same("told " + texts[i], Tell.traces(x, 0, 0, texts[i]), 0);
            Check.same("fit " + texts[i], x.fits(0, 0), due[i]);
        }
        NamesUnder y = Tell.named("hati", "abcdefgh");
        Tell.wall(y, 0, 16, Tell.by(0, FIRST, 1), Tell.by(0, OUT, NONE));
        for (int at = 0; at < 8; at++) {
            String stops = "........";
            String own = stops.substring(0, at) + "abcdefgh".charAt(at) + stops.substring(at + 1);
            String other = stops.substring(0, at) + "z" + stops.substring(at + 1);
            Tell.traces(y, 0, 0, own);
            Check.same("its own letter at " + at, y.fits(0, 0), 2);
            Tell.traces(y, 0, 0, other);
            Check.same("another letter at " + at, y.fits(0, 0), 0);
        }
        Tell.traces(y, 0, 0, ".......");
        Check.same("known, but of one place less", y.fits(0, 0), 0);
        NamesUnder z = Tell.named("hat");
        Tell.wall(z, 0, 6, Tell.by(0, FIRST, NONE), Tell.by(0, OUT, NONE));
        for (String text : new String[] {"hatixxxx", "hat", "hatx", ".a.", "........", "..."}) {
            Tell.traces(z, 0, 0, text);
            Check.same("longer and shorter ones, " + text, z.fits(0, 0), text.length() == 3 ? 1 : 0);
        }
        Tell.name(z, 0, "hatjfijl");
        Tell.name(z, 0, "hat");
        Check.same("a longer and a shorter name", z.fits(0, 0), 1);
    }

    private static void asManyPlaces() {
        Check.says("at each of its letters' places a letter, or none to be seen; as many places as the NAME had letters.");
        NamesUnder x = new NamesUnder();
        for (int i = 0; i < 8; i++) {
            Tell.name(x, i, "abcdefgh".substring(0, i + 1));
        }
        Tell.wall(x, 0, 24, Tell.by(0, FIRST, NONE), Tell.by(0, OUT, NONE), Tell.by(0, PUT_IN, NONE), Tell.by(0, OUT, NONE));
        Check.same("without traces", x.fits(0, 2), 255);
        for (int size = 1; size <= 8; size++) {
            for (int seen = 0; seen < 1 << size; seen++) {
                StringBuilder text = new StringBuilder();
                for (int at = 0; at < size; at++) {
                    text.append((seen >> at & 1) == 1 ? "abcdefgh".charAt(at) : '.');
                }
                Check.same("told " + text, Tell.traces(x, 0, 2, text.toString()), 0);
                Check.same("only the one of " + size, x.fits(0, 2), 1 << (size - 1));
            }
        }
    }

    /** NAME 0 as FIRST, OUT over it with TRACES; what is asked of it is right but for what the call changes. */
    private static int firstFits(int name, String traces, int space, int grammar) {
        NamesUnder x = new NamesUnder();
        Tell.name(x, 0, "hatsu", 0, true);
        Tell.name(x, 1, "hatsi", 0, true);
        x.place(0, space, 0, 0, grammar);
        Tell.pile(x, 0, Tell.by(0, FIRST, name), Tell.by(0, OUT, NONE));
        Tell.traces(x, 0, 0, traces);
        return x.fits(0, 0) & 1;
    }

    private static void fitsIfAllIsSo() {
        Check.says("A NAME FITS a CUT (of 0, 3, 4) if all this is so");
        Check.same("all is so", firstFits(0, "h...u", 9, 2), 1);
        Check.same("not known", firstFits(NONE, "h...u", 9, 2), 1);
        Check.same("but for its name", firstFits(1, "h...u", 9, 2), 0);
        Check.same("but for a letter seen", firstFits(0, "h...i", 9, 2), 0);
        Check.same("but for how many letters", firstFits(0, "h...", 9, 2), 0);
        Check.same("but for the space", firstFits(0, "h...u", 8, 2), 0);
        Check.same("but for the space less 4", firstFits(0, "h...u", 14, 2), 0);
        Check.same("the space less 4", firstFits(0, "h...u", 13, 2), 1);
        Check.same("but for the grammar", firstFits(0, "h...u", 9, 1), 0);
        Check.same("no grammar", firstFits(0, "h...u", 9, 0), 1);
    }

    private static void itsName() {
        Check.says("it is its NAME, or that is not known");
        NamesUnder x = new NamesUnder();
        for (int i = 0; i < 8; i++) {
            Tell.name(x, i, "a" + (char) ('a' + i));
        }
        for (int name = -1; name < 8; name++) {
            Tell.wall(x, 0, 4, Tell.by(0, FIRST, name), Tell.by(0, HACKED, NONE), Tell.by(0, PUT_IN, name),
                    Tell.by(0, HACKED, NONE), Tell.by(0, MENDED, name));
            int due = name == NONE ? 255 : 1 << name;
            for (int layer = 0; layer < 6; layer += 2) {
                Check.same("name " + name + " layer " + layer, x.fits(0, layer), due);
            }
        }
    }

    private static void fitsOfNone() {
        Check.says("NAMES that FIT a CUT, as bits; NONE: none such of 0, 3, 4.");
        NamesUnder x = full(6);
        int[] due = {1, NONE, 1, NONE, 1, NONE, NONE};
        for (int layer = 0; layer < 7; layer++) {
            Check.same("layer " + layer, x.fits(0, layer), due[layer]);
        }
        Check.range("layer of one", 0, 0, v -> full(1).fits(0, v) != NONE);
        Check.range("place", 0, 0, v -> full(1).fits(v, 0) != NONE);
        Check.same("a place without cuts", full(0).fits(0, 0), NONE);
        NamesUnder y = new NamesUnder();
        y.place(0, 6, 0, 0, 0);
        y.cut(0, 0, FIRST, NONE);
        Check.same("without names none fits", y.fits(0, 0), 0);
        Tell.name(y, 7, "hati");
        Check.same("the last name", y.fits(0, 0), 128);
    }

    private static void crowded() {
        Check.says("Whether a NAME would be CROWDED at a PLACE: 1 so, 0 not, 2: it is too wide; NONE: none such.");
        for (int space = 1; space <= 24; space++) {
            for (int width = 1; width <= 24; width++) {
                NamesUnder x = Tell.named(Tell.wide(width));
                x.place(3, space, 0, 0, 2);
                int due = width <= space ? 0 : width <= space + 2 ? 1 : 2;
                Check.same("width " + width + " space " + space, x.crowded(3, 0), due);
            }
        }
        Check.range("place", 0, 11, v -> twelve().crowded(v, 0) != NONE);
        Check.range("name", 0, 1, v -> twelve().crowded(0, v) != NONE);
        NamesUnder x = Tell.named("hati");
        Check.same("no place told", x.crowded(0, 0), NONE);
        x.place(0, 6, 0, 0, 0);
        Check.same("told", x.crowded(0, 0), 0);
        Check.same("a name not told", x.crowded(0, 1), NONE);
        Check.same("a place not told", x.crowded(1, 0), NONE);
    }

    public static void main(String[] args) {
        placeRanges();
        placeAnew();
        sixCuts();
        cutRanges();
        whatACutHas();
        refusedCuts();
        liesSo();
        mendedNames();
        topmostGoes();
        tracesRead();
        noSuchTraces();
        tracesGone();
        refusedTraces();
        noSuchLayer();
        firstWidths();
        firstGrammar();
        putInWidths();
        mendedFits();
        tracesFit();
        asManyPlaces();
        fitsIfAllIsSo();
        itsName();
        fitsOfNone();
        crowded();
        Check.end();
    }
}
