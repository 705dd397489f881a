import java.util.ArrayList;
import java.util.List;

/** A call that is refused, or that only asks, leaves all as it was: every answer is then the same as without it. */
public final class RefusedCallsTest {
    private static final int NONE = NamesUnder.NONE;
    private static final int THROWN = Integer.MIN_VALUE;
    private static final int[] WILD = {-2, -1, 0, 1, 2, 3, 4, 5, 6, 7, 8, 11, 12, 99, 100, 1000, Integer.MIN_VALUE, Integer.MAX_VALUE};

    interface Deed {
        void on(NamesUnder x);
    }

    interface Scene {
        NamesUnder make();
    }

    private record Named(String what, Deed deed) {
    }

    /** Walls with TRACES, DATES, ORDERS, workers, BLOCKS and GAPS that let some STORIES. */
    private static NamesUnder sound() {
        NamesUnder x = new NamesUnder();
        String[] words = {"hati", "hato", "tuti", "hat"};
        for (int i = 0; i < words.length; i++) {
            Tell.name(x, i, words[i], i, i % 2 == 1);
        }
        x.place(0, 7, 30, 1, 1);
        x.cut(0, 0, Tell.FIRST, NONE);
        x.cut(0, 1, Tell.OUT, NONE);
        Tell.traces(x, 0, 0, "h...");
        x.cut(0, 2, Tell.PUT_IN, 2);
        x.place(1, 6, 99, 3, 0);
        x.cut(1, 0, Tell.FIRST, 0);
        x.cut(1, 3, Tell.HACKED, NONE);
        x.cut(1, 4, Tell.MENDED, NONE);
        x.place(2, 7, 0, 0, 0);
        x.cut(2, 1, Tell.FIRST, 1);
        x.place(3, 9, 50, 2, 2);
        x.dated(3, 2);
        x.dated(4, 4);
        Tell.order(x, 1, "out 0 when height<40;put 3 when cuts=2;");
        Tell.order(x, 4, "hack 1 when 1;mend 0 when not 0;");
        x.works(1, 98, true);
        x.works(4, 40, false);
        x.block(false, 0, 5, 0, 1);
        x.block(false, 3, 6, 7, 1);
        x.block(true, 1, 5, 7, 1);
        x.block(true, 2, 6, 7, 1);
        x.block(true, 5, 5, 8, 1);
        return x;
    }

    /** The same without a STORY: hati is not she at PLACE 3, and HAND 3 is ahead of what lies below its topmost of six CUTS at PLACE 4. */
    private static NamesUnder torn() {
        NamesUnder x = sound();
        x.cut(3, 5, Tell.FIRST, 0);
        x.place(4, 7, 10, 1, 0);
        int[] doings = {Tell.FIRST, Tell.OUT, Tell.PUT_IN, Tell.HACKED, Tell.MENDED, Tell.OUT};
        for (int doing : doings) {
            x.cut(4, doing == Tell.MENDED ? 4 : 3, doing, NONE);
        }
        return x;
    }

    private static int layer(NamesUnder x, int place, int layer, int what) {
        return Tell.hasLayer(x, place, layer, what) ? x.layer(place, layer, what) : THROWN;
    }

    /** Answers about NAMES and walls. */
    private static List<Integer> askWalls(NamesUnder x) {
        List<Integer> all = new ArrayList<>();
        for (int i = 0; i < 7; i++) {
            all.add(x.count(i));
        }
        for (int n = 0; n < 5; n++) {
            for (int i = 0; i < 4; i++) {
                all.add(x.known(n, i));
            }
            all.add(x.alike(n, 0));
        }
        for (int p = 0; p < 5; p++) {
            all.add(x.crowded(p, 1));
            for (int l = 0; l < 6; l++) {
                all.add(x.fits(p, l));
                for (int i = 0; i < 3; i++) {
                    all.add(layer(x, p, l, i));
                }
            }
        }
        return all;
    }

    /** Answers about STORIES, BLOCKS and HOW FAR. */
    private static List<Integer> askStories(NamesUnder x) {
        List<Integer> all = new ArrayList<>();
        all.add(x.doubt());
        for (int i = 0; i < 3; i++) {
            all.add(x.stories(i));
            all.add(x.next(i));
        }
        for (int h = 0; h < 6; h++) {
            for (int i = 0; i < 6; i++) {
                all.add(x.odds(h, i));
                all.add(x.between(h, i));
                all.add(x.story(i, h));
            }
            all.add(x.far(h, 0, 0));
            all.add(x.far(h, 1, 2));
            all.add(x.far(h, 2, 1));
            all.add(x.far(h, 3, 3));
            all.add(x.back(h));
        }
        for (int p = 0; p < 5; p++) {
            for (int l = 0; l < 6; l++) {
                all.add(x.stood(p, l));
            }
        }
        all.add(x.ways(0));
        all.add(x.ways(1));
        return all;
    }

    private static List<Integer> askRun(NamesUnder x) {
        List<Integer> all = new ArrayList<>();
        for (int i = 0; i < 3; i++) {
            all.add(x.agrees(i));
        }
        for (int r = 0; r < 6; r++) {
            all.add(x.missed(r));
            for (int p = 0; p < 5; p++) {
                all.add(x.ran(p, r));
            }
        }
        for (int p = 0; p < 5; p++) {
            for (int l = 0; l < 6; l++) {
                for (int i = 0; i < 3; i++) {
                    all.add(x.made(p, l, i));
                }
            }
        }
        return all;
    }

    private static void leavesAll(Scene scene, List<Named> deeds) {
        List<Integer> walls = askWalls(scene.make());
        List<Integer> stories = askStories(scene.make());
        List<Integer> run = askRun(scene.make());
        for (Named d : deeds) {
            NamesUnder[] x = {scene.make(), scene.make(), scene.make(), scene.make()};
            // What was found out before the call has to hold behind it, too.
            x[1].stories(0);
            x[2].agrees(0);
            for (NamesUnder y : x) {
                d.deed.on(y);
            }
            Check.so("walls behind " + d.what, askWalls(x[0]).equals(walls));
            Check.so("stories behind " + d.what, askStories(x[1]).equals(stories));
            Check.so("the run behind " + d.what, askRun(x[2]).equals(run));
            Check.so("stories, not asked before, behind " + d.what, askStories(x[3]).equals(stories));
        }
    }

    private static void add(List<Named> all, String what, Deed deed) {
        all.add(new Named(what, deed));
    }

    private static void refusedTexts(List<Named> all) {
        for (String text : new String[] {"", "two words", "ninelette", "h4ti", "hati", "hato", "Hat"}) {
            add(all, "name 2 " + text, x -> Check.so("refused", Tell.name(x, 2, text, 5, true) > 0));
            add(all, "name 8 " + text, x -> Check.same("refused", Tell.name(x, 8, text, 5, true), NONE));
            add(all, "name -1 " + text, x -> Check.same("refused", Tell.name(x, -1, text, 5, true), NONE));
            add(all, "name of reign 6 " + text, x -> Check.same("refused", Tell.name(x, 0, text, 6, true), NONE));
            add(all, "name of reign -1 " + text, x -> Check.same("refused", Tell.name(x, 0, text, -1, true), NONE));
        }
        for (String text : new String[] {"", ". .", ".........", "h4..", "t...?"}) {
            add(all, "traces " + text, x -> Check.same("refused", Tell.traces(x, 0, 0, text), 1));
        }
        for (int[] c : new int[][] {{0, 1}, {0, 2}, {0, 3}, {0, -1}, {1, 0}, {1, 2}, {2, 0}, {5, 0}, {12, 0}, {-1, 0}}) {
            add(all, "traces of " + c[0] + " " + c[1], x -> Check.same("refused", Tell.traces(x, c[0], c[1], "t..."), NONE));
        }
        String[] orders = {"?", "out 0 when 0", "out 0 when 0;?", "out 8 when 1;", "out 7 when 1;", "put 0 when (((((1)))));",
            "out 0 when 0;".repeat(13), "put 1 when 1; put 1 when 1; mend"};
        for (String text : orders) {
            for (int reign : new int[] {0, 1, 4, 5}) {
                add(all, "order " + reign + " " + text, x -> Check.so("refused", Tell.order(x, reign, text) > 0));
            }
        }
        for (int reign : new int[] {-1, 6, Integer.MIN_VALUE, Integer.MAX_VALUE}) {
            add(all, "order " + reign, x -> Check.same("refused", Tell.order(x, reign, "out 0 when 1;"), NONE));
        }
    }

    private static void refusedTellings(List<Named> all) {
        for (int[] p : new int[][] {{-1, 7, 0, 0, 0}, {12, 7, 0, 0, 0}, {0, 0, 0, 0, 0}, {0, 25, 0, 0, 0}, {1, 7, -1, 0, 0},
            {1, 7, 100, 0, 0}, {2, 7, 0, -1, 0}, {2, 7, 0, 4, 0}, {3, 7, 0, 0, -1}, {3, 7, 0, 0, 3}}) {
            add(all, "place " + p[0], x -> Check.not("refused", x.place(p[0], p[1], p[2], p[3], p[4])));
        }
        for (int[] c : new int[][] {{-1, 0, 1, -1}, {12, 0, 1, -1}, {6, 0, 0, -1}, {0, -1, 1, -1}, {0, 6, 1, -1}, {0, 0, -1, -1},
            {0, 0, 5, -1}, {0, 0, 1, 0}, {0, 0, 2, 2}, {0, 0, 0, 0}, {0, 0, 3, 0}, {0, 0, 4, 2}, {3, 0, 1, -1}, {3, 0, 2, -1},
            {3, 0, 3, 0}, {3, 0, 4, 0}, {3, 0, 0, 4}, {3, 0, 0, 8}, {3, 0, 0, -2}}) {
            add(all, "cut " + c[0] + " " + c[1] + " " + c[2] + " " + c[3], x -> Check.same("refused", x.cut(c[0], c[1], c[2], c[3]), NONE));
        }
        for (int p : new int[] {-1, 6, 12, Integer.MIN_VALUE, Integer.MAX_VALUE}) {
            add(all, "clean " + p, x -> Check.not("refused", x.clean(p)));
        }
        for (int[] d : new int[][] {{-1, 0}, {6, 0}, {0, 6}, {3, -2}, {3, 6}, {3, Integer.MAX_VALUE}}) {
            add(all, "dated " + d[0] + " " + d[1], x -> Check.not("refused", x.dated(d[0], d[1])));
            add(all, "works " + d[0] + " " + d[1] * 100, x -> Check.not("refused", x.works(d[0] == 0 ? 6 : d[0], d[1] == 0 ? 100 : -1, true)));
        }
        for (int[] b : new int[][] {{-1, 6, 7, 1}, {6, 6, 7, 1}, {0, -1, 7, 1}, {0, 1000, 7, 1}, {3, 6, -1, 1}, {3, 6, 1000, 1},
            {3, 6, 7, -1}, {3, 6, 7, 10}}) {
            add(all, "block " + b[0], x -> Check.not("refused", x.block(false, b[0], b[1], b[2], b[3])));
            add(all, "gap " + b[0], x -> Check.not("refused", x.block(true, b[0], b[1], b[2], b[3])));
        }
        add(all, "gap of edge 0", x -> Check.not("refused", x.block(true, 1, 0, 7, 1)));
        add(all, "gap of edge 0", x -> Check.not("refused", x.block(true, 1, 5, 0, 1)));
    }

    private static List<Named> refused() {
        List<Named> all = new ArrayList<>();
        refusedTexts(all);
        refusedTellings(all);
        return all;
    }

    /** A deed that asks one thing with every wild argument. */
    private static void addAsking(List<Named> all, String what, java.util.function.BiFunction<NamesUnder, int[], Integer> ask) {
        for (int a : WILD) {
            add(all, what + " " + a, x -> {
                for (int b : new int[] {-1, 0, 1, 6, 12, Integer.MIN_VALUE, Integer.MAX_VALUE}) {
                    ask.apply(x, new int[] {a, b});
                }
            });
        }
    }

    private static List<Named> asking() {
        List<Named> all = new ArrayList<>();
        addAsking(all, "known", (x, a) -> x.known(a[0], a[1]));
        addAsking(all, "alike", (x, a) -> x.alike(a[0], a[1]));
        addAsking(all, "layer", (x, a) -> layer(x, a[0], a[1], 0));
        addAsking(all, "layer", (x, a) -> layer(x, 0, a[0], a[1]));
        addAsking(all, "fits", (x, a) -> x.fits(a[0], a[1]));
        addAsking(all, "crowded", (x, a) -> x.crowded(a[0], a[1]));
        addAsking(all, "stories", (x, a) -> x.stories(a[0]));
        addAsking(all, "story", (x, a) -> x.story(a[0], a[1]));
        addAsking(all, "odds", (x, a) -> x.odds(a[0], a[1]));
        addAsking(all, "between", (x, a) -> x.between(a[0], a[1]));
        addAsking(all, "stood", (x, a) -> x.stood(a[0], a[1]));
        addAsking(all, "next", (x, a) -> x.next(a[0]));
        addAsking(all, "doubt", (x, a) -> x.doubt());
        addAsking(all, "ran", (x, a) -> x.ran(a[0], a[1]));
        addAsking(all, "made", (x, a) -> x.made(a[0], a[1], 0));
        addAsking(all, "made", (x, a) -> x.made(0, a[0], a[1]));
        addAsking(all, "agrees", (x, a) -> x.agrees(a[0]));
        addAsking(all, "missed", (x, a) -> x.missed(a[0]));
        addAsking(all, "far", (x, a) -> x.far(a[0], a[1], 0));
        addAsking(all, "far", (x, a) -> x.far(0, a[0], a[1]));
        addAsking(all, "ways", (x, a) -> x.ways(a[0]));
        addAsking(all, "back", (x, a) -> x.back(a[0]));
        addAsking(all, "count", (x, a) -> x.count(a[0]));
        return all;
    }

    /** What is on the TAPE stays there behind all calls but those that read it. */
    private static void tapeStays() {
        List<Named> all = asking();
        refusedTellings(all);
        add(all, "place", x -> x.place(5, 6, 0, 0, 0));
        add(all, "cut", x -> x.cut(3, 0, 0, 0));
        add(all, "clean", x -> x.clean(0));
        add(all, "dated", x -> x.dated(0, 0));
        add(all, "works", x -> x.works(0, 0, false));
        add(all, "block", x -> x.block(false, 5, 1, 1, 1));
        for (Named d : all) {
            NamesUnder x = sound();
            Signs.feed(x, " sethi\n");
            d.deed.on(x);
            Check.same("signs on the tape behind " + d.what, x.count(6), 7);
            Check.same("they are a name behind " + d.what, x.name(7, 0, false), 0);
            Check.same("that one behind " + d.what, x.known(7, 2), 8);
        }
    }

    public static void main(String[] args) {
        Check.same("the sound walls let stories", sound().stories(0) > 0 ? 1 : 0, 1);
        Check.same("the torn ones let none", torn().stories(0), 0);
        Check.same("their doubt", torn().doubt(), 24);
        leavesAll(RefusedCallsTest::sound, refused());
        leavesAll(RefusedCallsTest::sound, asking());
        leavesAll(RefusedCallsTest::torn, asking());
        tapeStays();
        for (int doing = 0; doing < 5; doing++) {
            int d = doing;
            leavesAll(RefusedCallsTest::torn, List.of(new Named("a seventh cut", x -> Check.same("refused", x.cut(4, 0, d, NONE), NONE))));
        }
        Check.end();
    }
}
