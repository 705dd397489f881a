import java.util.ArrayList;
import java.util.List;
import java.util.NoSuchElementException;

/** Makes each call on the class and on Plain, and keeps those whose answers differ. */
final class Both {
    static final int THROWN = Integer.MIN_VALUE;

    final NamesUnder x = new NamesUnder();
    final Plain p = new Plain();
    final List<String> history = new ArrayList<>();
    String wrong = null;

    private int due(String call, int got, int want) {
        history.add(call + " = " + got);
        if (got != want && wrong == null) {
            wrong = call + " answered " + got + ", due is " + want;
        }
        return got;
    }

    private static int bit(boolean b) {
        return b ? 1 : 0;
    }

    /** Feeds a text, eight signs to a long. */
    void text(String s) {
        for (int i = 0; i < s.length(); i += 24) {
            feed(Signs.pack(s, i), Signs.pack(s, i + 8), Signs.pack(s, i + 16));
        }
    }

    int feed(long a, long b, long c) {
        return due("feed(" + a + "L, " + b + "L, " + c + "L)", x.feed(a, b, c), p.feed(a, b, c));
    }

    int layer(int a, int b, int c) {
        int got;
        try {
            got = x.layer(a, b, c);
        } catch (NoSuchElementException e) {
            got = THROWN;
        }
        int want;
        try {
            want = p.layer(a, b, c);
        } catch (NoSuchElementException e) {
            want = THROWN;
        }
        return due("layer(" + a + ", " + b + ", " + c + ")", got, want);
    }

    private static String args(Object... all) {
        StringBuilder s = new StringBuilder("(");
        for (Object o : all) {
            s.append(s.length() > 1 ? ", " : "").append(o);
        }
        return s.append(")").toString();
    }

    int name(int a, int b, boolean c) {
        return due("name" + args(a, b, c), x.name(a, b, c), p.name(a, b, c));
    }

    int known(int a, int b) {
        return due("known" + args(a, b), x.known(a, b), p.known(a, b));
    }

    int alike(int a, int b) {
        return due("alike" + args(a, b), x.alike(a, b), p.alike(a, b));
    }

    int place(int a, int b, int c, int d, int e) {
        return due("place" + args(a, b, c, d, e), bit(x.place(a, b, c, d, e)), bit(p.place(a, b, c, d, e)));
    }

    int cut(int a, int b, int c, int d) {
        return due("cut" + args(a, b, c, d), x.cut(a, b, c, d), p.cut(a, b, c, d));
    }

    int clean(int a) {
        return due("clean" + args(a), bit(x.clean(a)), bit(p.clean(a)));
    }

    int traces(int a, int b) {
        return due("traces" + args(a, b), x.traces(a, b), p.traces(a, b));
    }

    int fits(int a, int b) {
        return due("fits" + args(a, b), x.fits(a, b), p.fits(a, b));
    }

    int crowded(int a, int b) {
        return due("crowded" + args(a, b), x.crowded(a, b), p.crowded(a, b));
    }

    int dated(int a, int b) {
        return due("dated" + args(a, b), bit(x.dated(a, b)), bit(p.dated(a, b)));
    }

    int stories(int a) {
        return due("stories" + args(a), x.stories(a), p.stories(a));
    }

    int story(int a, int b) {
        return due("story" + args(a, b), x.story(a, b), p.story(a, b));
    }

    int odds(int a, int b) {
        return due("odds" + args(a, b), x.odds(a, b), p.odds(a, b));
    }

    int between(int a, int b) {
        return due("between" + args(a, b), x.between(a, b), p.between(a, b));
    }

    int stood(int a, int b) {
        return due("stood" + args(a, b), x.stood(a, b), p.stood(a, b));
    }

    int next(int a) {
        return due("next" + args(a), x.next(a), p.next(a));
    }

    int doubt() {
        return due("doubt()", x.doubt(), p.doubt());
    }

    int order(int a) {
        return due("order" + args(a), x.order(a), p.order(a));
    }

    int works(int a, int b, boolean c) {
        return due("works" + args(a, b, c), bit(x.works(a, b, c)), bit(p.works(a, b, c)));
    }

    int ran(int a, int b) {
        return due("ran" + args(a, b), x.ran(a, b), p.ran(a, b));
    }

    int made(int a, int b, int c) {
        return due("made" + args(a, b, c), x.made(a, b, c), p.made(a, b, c));
    }

    int agrees(int a) {
        return due("agrees" + args(a), x.agrees(a), p.agrees(a));
    }

    int missed(int a) {
        return due("missed" + args(a), x.missed(a), p.missed(a));
    }

    int far(int a, int b, int c) {
        return due("far" + args(a, b, c), x.far(a, b, c), p.far(a, b, c));
    }

    int block(boolean a, int b, int c, int d, int e) {
        return due("block" + args(a, b, c, d, e), bit(x.block(a, b, c, d, e)), bit(p.block(a, b, c, d, e)));
    }

    int ways(int a) {
        return due("ways" + args(a), x.ways(a), p.ways(a));
    }

    int back(int a) {
        return due("back" + args(a), x.back(a), p.back(a));
    }

    int count(int a) {
        return due("count" + args(a), x.count(a), p.count(a));
    }
}
