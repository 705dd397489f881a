import java.util.ArrayList;
import java.util.Arrays;
import java.util.HashSet;
import java.util.List;
import java.util.NoSuchElementException;
import java.util.Set;

/**
 * The document once more, told as plainly as can be and without a thought for speed: every STORY
 * and every WAY is tried, nothing is kept from one call to the next. Tests hold the class against it.
 */
final class Plain {
    record Name(String word, int reign, boolean she) {
        int width() {
            int sum = 0;
            for (char c : word.toCharArray()) {
                sum += "fijlrt".indexOf(c) >= 0 ? 1 : "mw".indexOf(c) >= 0 ? 3 : 2;
            }
            return sum;
        }
    }

    static final class Cut {
        final int hand;
        final int doing;
        final int name;
        String traces;

        Cut(int hand, int doing, int name) {
            this.hand = hand;
            this.doing = doing;
            this.name = name;
        }

        boolean erases() {
            return doing == 1 || doing == 2;
        }
    }

    record Place(int space, int height, int sort, int grammar, List<Cut> cuts) {
    }

    record Line(String deed, int name, Expr when) {
    }

    interface Expr {
        int of(Plain p, int place, List<Cut> cuts);
    }

    record Stone(int left, int right, int course) {
    }

    final StringBuilder tape = new StringBuilder();
    final Name[] names = new Name[8];
    final Place[] places = new Place[12];
    final int[] dates = {-1, -1, -1, -1, -1, -1};
    final List<List<Line>> orders = new ArrayList<>();
    final int[] ladder = {99, 99, 99, 99, 99, 99};
    final boolean[] reads = {true, true, true, true, true, true};
    final Stone[] blocks = new Stone[6];
    final Stone[] gaps = new Stone[6];

    Plain() {
        for (int i = 0; i < 6; i++) {
            orders.add(List.of());
        }
    }

    private static boolean in(int x, int from, int to) {
        return x >= from && x <= to;
    }

    private String takeTape() {
        String s = tape.toString();
        tape.setLength(0);
        return s;
    }

    private static String stripBlanks(String s) {
        return s.replaceAll("^[ \n]+", "").replaceAll("[ \n]+$", "");
    }

    int feed(long a, long b, long c) {
        for (long x : new long[] {a, b, c}) {
            for (int i = 7; i >= 0; i--) {
                int sign = (int) (x >> (8 * i) & 0xff);
                if ((sign == 10 || in(sign, 32, 126)) && tape.length() < 1000) {
                    tape.append((char) sign);
                }
            }
        }
        return tape.length();
    }

    int name(int name, int reign, boolean she) {
        String word = stripBlanks(takeTape());
        if (!in(name, 0, 7) || !in(reign, 0, 5)) {
            return -1;
        }
        if (!word.matches("[a-z]{1,8}")) {
            return 1;
        }
        for (int i = 0; i < 8; i++) {
            if (i != name && names[i] != null && names[i].word.equals(word)) {
                return 2;
            }
        }
        names[name] = new Name(word, reign, she);
        return 0;
    }

    private Name nameOf(int n) {
        return in(n, 0, 7) ? names[n] : null;
    }

    int known(int name, int what) {
        Name n = nameOf(name);
        if (n == null || !in(what, 0, 3)) {
            return -1;
        }
        return new int[] {n.reign, n.she ? 1 : 0, n.width(), n.word.length()}[what];
    }

    private static Set<String> oneStepFrom(String word) {
        Set<String> out = new HashSet<>();
        for (int i = 0; i <= word.length(); i++) {
            if (i < word.length()) {
                out.add(word.substring(0, i) + word.substring(i + 1));
            }
            for (char c = 'a'; c <= 'z'; c++) {
                out.add(word.substring(0, i) + c + word.substring(i));
                if (i < word.length()) {
                    out.add(word.substring(0, i) + c + word.substring(i + 1));
                }
            }
        }
        out.remove(word);
        return out;
    }

    private boolean areAlike(int a, int b) {
        return oneStepFrom(names[a].word).contains(names[b].word);
    }

    int alike(int a, int b) {
        if (nameOf(a) == null || nameOf(b) == null) {
            return -1;
        }
        return areAlike(a, b) ? 1 : 0;
    }

    boolean place(int place, int space, int height, int sort, int grammar) {
        if (!in(place, 0, 11) || !in(space, 1, 24) || !in(height, 0, 99) || !in(sort, 0, 3) || !in(grammar, 0, 2)) {
            return false;
        }
        places[place] = new Place(space, height, sort, grammar, new ArrayList<>());
        return true;
    }

    private Place placeOf(int p) {
        return in(p, 0, 11) ? places[p] : null;
    }

    private Cut cutOf(int place, int layer) {
        Place p = placeOf(place);
        return p == null || !in(layer, 0, p.cuts.size() - 1) ? null : p.cuts.get(layer);
    }

    int cut(int place, int hand, int doing, int name) {
        Place p = placeOf(place);
        if (p == null || !in(hand, 0, 5) || !in(doing, 0, 4)) {
            return -1;
        }
        if (name != -1 && (nameOf(name) == null || doing == 1 || doing == 2)) {
            return -1;
        }
        int n = p.cuts.size();
        if (n == 6) {
            return -1;
        }
        int below = n == 0 ? -1 : p.cuts.get(n - 1).doing;
        boolean lies = switch (doing) {
            case 0 -> below == -1;
            case 1, 2 -> below == 0 || below == 3 || below == 4;
            default -> below == 1 || below == 2;
        };
        if (!lies) {
            return -1;
        }
        if (doing == 4) {
            int stood = p.cuts.get(n - 2).name;
            if (name != -1 && stood != -1 && name != stood) {
                return -1;
            }
        }
        p.cuts.add(new Cut(hand, doing, name));
        return n;
    }

    boolean clean(int place) {
        Place p = placeOf(place);
        if (p == null || p.cuts.isEmpty()) {
            return false;
        }
        dropTop(p.cuts);
        return true;
    }

    private static void dropTop(List<Cut> cuts) {
        Cut gone = cuts.remove(cuts.size() - 1);
        if (gone.doing == 1) {
            cuts.get(cuts.size() - 1).traces = null;
        }
    }

    int traces(int place, int layer) {
        String text = stripBlanks(takeTape());
        Cut c = cutOf(place, layer);
        Cut over = cutOf(place, layer + 1);
        if (c == null || c.erases() || over == null || over.doing != 1) {
            return -1;
        }
        if (!text.matches("[a-z.]{1,8}")) {
            return 1;
        }
        c.traces = text;
        return 0;
    }

    int layer(int place, int layer, int what) {
        Cut c = cutOf(place, layer);
        if (c == null || !in(what, 0, 2)) {
            throw new NoSuchElementException();
        }
        return new int[] {c.hand, c.doing, c.name}[what];
    }

    private boolean fit(Place p, List<Cut> cuts, int layer, int n) {
        Cut c = cuts.get(layer);
        Name name = names[n];
        if (name == null || (c.name != -1 && c.name != n)) {
            return false;
        }
        if (c.traces != null && !name.word.matches(c.traces)) {
            return false;
        }
        if (c.doing == 0) {
            boolean grammar = p.grammar == 0 || (p.grammar == 1 && !name.she) || (p.grammar == 2 && name.she);
            return grammar && in(name.width(), p.space - 4, p.space);
        }
        if (c.doing == 3) {
            return name.width() <= p.space + 2;
        }
        return fit(p, cuts, layer - 2, n);
    }

    int fits(int place, int layer) {
        Cut c = cutOf(place, layer);
        if (c == null || c.erases()) {
            return -1;
        }
        int bits = 0;
        for (int n = 0; n < 8; n++) {
            bits |= fit(places[place], places[place].cuts, layer, n) ? 1 << n : 0;
        }
        return bits;
    }

    int crowded(int place, int name) {
        Place p = placeOf(place);
        Name n = nameOf(name);
        if (p == null || n == null) {
            return -1;
        }
        return n.width() > p.space + 2 ? 2 : n.width() > p.space ? 1 : 0;
    }

    boolean dated(int hand, int reign) {
        if (!in(hand, 0, 5) || !in(reign, -1, 5)) {
            return false;
        }
        dates[hand] = reign;
        return true;
    }

    private List<List<Cut>> allCuts() {
        List<List<Cut>> all = new ArrayList<>();
        for (Place p : places) {
            all.add(p == null ? List.of() : p.cuts);
        }
        return all;
    }

    private boolean lets(Place p, List<Cut> cuts, int[] r) {
        for (int i = 0; i < cuts.size(); i++) {
            Cut c = cuts.get(i);
            for (int j = 0; j < i; j++) {
                if (r[c.hand] < r[cuts.get(j).hand]) {
                    return false;
                }
            }
            boolean some = false;
            for (int n = 0; n < 8 && !some; n++) {
                if (c.erases()) {
                    Cut below = cuts.get(i - 1);
                    some = fit(p, cuts, i - 1, n) && names[n].reign < r[c.hand]
                            && (below.doing == 4 || names[n].reign <= r[below.hand]);
                } else {
                    some = fit(p, cuts, i, n) && (c.doing == 4 || names[n].reign <= r[c.hand]);
                }
            }
            if (!some || (c.doing == 4 && r[c.hand] <= r[cuts.get(i - 1).hand])) {
                return false;
            }
        }
        return true;
    }

    private static int busyHands(List<List<Cut>> all) {
        int bits = 0;
        for (List<Cut> cuts : all) {
            for (Cut c : cuts) {
                bits |= 1 << c.hand;
            }
        }
        return bits;
    }

    /** All STORIES in order; a HAND without CUTS has -1. */
    private List<int[]> tellStories(List<List<Cut>> all, int atMost) {
        List<int[]> out = new ArrayList<>();
        int busy = busyHands(all);
        int[] r = new int[6];
        for (int code = 0; code < 46656 && out.size() < atMost; code++) {
            int rest = code;
            boolean sound = true;
            for (int h = 5; h >= 0; h--) {
                r[h] = rest % 6;
                rest /= 6;
                if ((busy >> h & 1) == 0) {
                    sound &= r[h] == 0;
                } else {
                    sound &= dates[h] == -1 || dates[h] == r[h];
                }
            }
            for (int p = 0; p < 12 && sound; p++) {
                sound = lets(places[p], all.get(p), r);
            }
            if (sound) {
                int[] kept = r.clone();
                for (int h = 0; h < 6; h++) {
                    kept[h] = (busy >> h & 1) == 0 ? -1 : kept[h];
                }
                out.add(kept);
            }
        }
        return out;
    }

    private List<int[]> all() {
        return tellStories(allCuts(), Integer.MAX_VALUE);
    }

    int stories(int what) {
        if (what == 0) {
            return all().size();
        }
        if (what == 1) {
            int bits = 0;
            List<int[]> all = all();
            for (int h = 0; h < 6; h++) {
                Set<Integer> seen = new HashSet<>();
                for (int[] r : all) {
                    seen.add(r[h]);
                }
                bits |= seen.size() == 1 && !seen.contains(-1) ? 1 << h : 0;
            }
            return bits;
        }
        return what == 2 ? busyHands(allCuts()) : -1;
    }

    int story(int k, int hand) {
        List<int[]> all = all();
        return in(hand, 0, 5) && in(k, 0, all.size() - 1) ? all.get(k)[hand] : -1;
    }

    private boolean busy(int hand) {
        return in(hand, 0, 5) && (busyHands(allCuts()) >> hand & 1) == 1;
    }

    private static int number(List<int[]> all, int hand, int reign) {
        int n = 0;
        for (int[] r : all) {
            n += r[hand] == reign ? 1 : 0;
        }
        return n;
    }

    int odds(int hand, int reign) {
        return busy(hand) && in(reign, 0, 5) ? number(all(), hand, reign) : -1;
    }

    int between(int a, int b) {
        if (!busy(a) || !busy(b)) {
            return -1;
        }
        int bits = 0;
        for (int[] r : all()) {
            bits |= r[a] < r[b] ? 1 : r[a] == r[b] ? 2 : 4;
        }
        return bits;
    }

    int stood(int place, int layer) {
        Cut c = cutOf(place, layer);
        List<int[]> all = all();
        if (c == null || c.erases() || all.isEmpty()) {
            return -1;
        }
        Cut over = cutOf(place, layer + 1);
        int bits = 0;
        for (int n = 0; n < 8; n++) {
            for (int[] r : all) {
                if (fit(places[place], places[place].cuts, layer, n)
                        && (c.doing == 4 || names[n].reign <= r[c.hand])
                        && (over == null || names[n].reign < r[over.hand])) {
                    bits |= 1 << n;
                    break;
                }
            }
        }
        return bits;
    }

    int next(int what) {
        List<int[]> all = all();
        int best = -1;
        int bestMost = Integer.MAX_VALUE;
        for (int h = 0; h < 6 && !all.isEmpty(); h++) {
            if (busy(h) && dates[h] == -1) {
                int most = 0;
                for (int r = 0; r < 6; r++) {
                    most = Math.max(most, number(all, h, r));
                }
                if (most < bestMost) {
                    best = h;
                    bestMost = most;
                }
            }
        }
        return best == -1 || !in(what, 0, 1) ? -1 : what == 0 ? best : bestMost;
    }

    private boolean storyWithout(int... less) {
        List<List<Cut>> all = new ArrayList<>();
        for (List<Cut> cuts : allCuts()) {
            List<Cut> copy = new ArrayList<>();
            for (Cut c : cuts) {
                Cut d = new Cut(c.hand, c.doing, c.name);
                d.traces = c.traces;
                copy.add(d);
            }
            all.add(copy);
        }
        for (int p : less) {
            if (all.get(p).isEmpty()) {
                return false;
            }
            dropTop(all.get(p));
        }
        return !tellStories(all, 1).isEmpty();
    }

    int doubt() {
        if (storyWithout()) {
            return -1;
        }
        for (int a = 0; a < 12; a++) {
            if (storyWithout(a)) {
                return 1 << a;
            }
        }
        for (int a = 0; a < 12; a++) {
            for (int b = a + 1; b < 12; b++) {
                if (storyWithout(a, b)) {
                    return (1 << a) + (1 << b);
                }
            }
        }
        return -1;
    }

    int order(int reign) {
        String text = takeTape();
        if (!in(reign, 0, 5)) {
            return -1;
        }
        PlainOrder reader = new PlainOrder(this, text);
        int fault = reader.read();
        if (fault == 0) {
            orders.set(reign, reader.lines);
        }
        return fault;
    }

    boolean works(int reign, int rungs, boolean read) {
        if (!in(reign, 0, 5) || !in(rungs, 0, 99)) {
            return false;
        }
        ladder[reign] = rungs;
        reads[reign] = read;
        return true;
    }

    static int standing(List<Cut> cuts) {
        return cuts.isEmpty() || cuts.get(cuts.size() - 1).erases() ? -1 : cuts.get(cuts.size() - 1).name;
    }

    private int slips;

    /** The walls behind a RUN to a REIGN. */
    private List<List<Cut>> runTo(int reign) {
        List<List<Cut>> walls = new ArrayList<>();
        slips = 0;
        for (Place p : places) {
            List<Cut> cuts = new ArrayList<>();
            if (p != null && !p.cuts.isEmpty() && p.cuts.get(0).name != -1) {
                cuts.add(new Cut(-1, 0, p.cuts.get(0).name));
            }
            walls.add(cuts);
        }
        for (int r = 0; r <= reign; r++) {
            for (int p = 0; p < 12; p++) {
                for (Line line : orders.get(r)) {
                    obey(r, p, walls.get(p), line);
                }
            }
        }
        return walls;
    }

    private void obey(int r, int p, List<Cut> cuts, Line line) {
        int n = cuts.size();
        if (n == 0 || n == 6 || ladder[r] < places[p].height || line.when.of(this, p, cuts) == 0) {
            return;
        }
        int standing = standing(cuts);
        boolean narrow = names[line.name].width() <= places[p].space + 2;
        switch (line.deed) {
            case "out", "hack" -> {
                if (standing != -1 && (standing == line.name || (!reads[r] && areAlike(standing, line.name)))) {
                    cuts.add(new Cut(r, line.deed.equals("out") ? 1 : 2, -1));
                    slips += standing == line.name ? 0 : 1;
                }
            }
            case "put" -> {
                if (standing == -1 && narrow) {
                    cuts.add(new Cut(r, 3, line.name));
                }
            }
            default -> {
                if (standing == -1 && narrow && cuts.get(n - 2).name == line.name) {
                    cuts.add(new Cut(r, 4, line.name));
                }
            }
        }
    }

    int ran(int place, int reign) {
        return placeOf(place) == null || !in(reign, 0, 5) ? -1 : runTo(reign).get(place).size();
    }

    int made(int place, int layer, int what) {
        if (placeOf(place) == null || !in(what, 0, 2)) {
            return -1;
        }
        List<Cut> cuts = runTo(5).get(place);
        if (!in(layer, 0, cuts.size() - 1)) {
            return -1;
        }
        Cut c = cuts.get(layer);
        return new int[] {c.hand, c.doing, c.name}[what];
    }

    int agrees(int what) {
        List<List<Cut>> walls = runTo(5);
        int bits = 0;
        int cuts = 0;
        for (int p = 0; p < 12; p++) {
            cuts += walls.get(p).size();
            if (places[p] == null || places[p].cuts.size() != walls.get(p).size()) {
                continue;
            }
            boolean same = true;
            for (int i = 0; i < walls.get(p).size(); i++) {
                Cut told = places[p].cuts.get(i);
                Cut ran = walls.get(p).get(i);
                same &= told.doing == ran.doing && (told.name == -1 || told.name == ran.name);
            }
            bits |= same ? 1 << p : 0;
        }
        return in(what, 0, 2) ? new int[] {bits, slips, cuts}[what] : -1;
    }

    int missed(int reign) {
        if (!in(reign, 0, 5)) {
            return -1;
        }
        List<List<Cut>> walls = runTo(reign);
        int bits = 0;
        for (int p = 0; p < 12; p++) {
            for (Line line : orders.get(reign)) {
                boolean against = line.deed.equals("out") || line.deed.equals("hack");
                bits |= against && standing(walls.get(p)) == line.name ? 1 << p : 0;
            }
        }
        return bits;
    }

    int far(int hand, int name, int what) {
        if (!in(hand, 0, 5) || nameOf(name) == null) {
            return -1;
        }
        int most = -1;
        int least = -1;
        int doneSorts = 0;
        int leftSorts = 0;
        for (Place p : places) {
            if (p == null) {
                continue;
            }
            for (int i = 1; i < p.cuts.size(); i++) {
                if (p.cuts.get(i).erases() && p.cuts.get(i).hand == hand && p.cuts.get(i - 1).name == name) {
                    most = Math.max(most, p.height);
                    doneSorts |= 1 << p.sort;
                }
            }
            if (standing(p.cuts) == name) {
                least = least == -1 ? p.height : Math.min(least, p.height);
                leftSorts |= 1 << p.sort;
            }
        }
        return in(what, 0, 3) ? new int[] {most, least, doneSorts, leftSorts}[what] : -1;
    }

    boolean block(boolean gap, int number, int left, int right, int course) {
        int lowest = gap ? 1 : 0;
        if (!in(number, 0, 5) || !in(left, lowest, 999) || !in(right, lowest, 999) || !in(course, 0, 9)) {
            return false;
        }
        (gap ? gaps : blocks)[number] = new Stone(left, right, course);
        return true;
    }

    private static boolean fitsGap(Stone b, Stone g) {
        boolean left = b.left == g.left;
        boolean right = b.right == g.right;
        return b.course == g.course && ((left && right) || (left && b.right == 0) || (right && b.left == 0));
    }

    /** Every row of six GAPS is tried; a BLOCK that is not told has -1. */
    private List<int[]> tellWays() {
        List<int[]> out = new ArrayList<>();
        for (int code = 0; code < 46656; code++) {
            int[] g = new int[6];
            int rest = code;
            int filled = 0;
            boolean sound = true;
            for (int b = 0; b < 6 && sound; b++) {
                g[b] = rest % 6;
                rest /= 6;
                if (blocks[b] == null) {
                    sound = g[b] == 0;
                    g[b] = -1;
                } else {
                    sound = (filled >> g[b] & 1) == 0 && gaps[g[b]] != null && fitsGap(blocks[b], gaps[g[b]]);
                    filled |= 1 << g[b];
                }
            }
            if (sound) {
                out.add(g);
            }
        }
        return out;
    }

    int ways(int what) {
        if (!in(what, 0, 1)) {
            return -1;
        }
        List<int[]> all = tellWays();
        int sure = 0;
        for (int b = 0; b < 6; b++) {
            Set<Integer> seen = new HashSet<>();
            for (int[] g : all) {
                seen.add(g[b]);
            }
            sure |= seen.size() == 1 && !seen.contains(-1) ? 1 << b : 0;
        }
        return what == 0 ? all.size() : sure;
    }

    int back(int block) {
        if (!in(block, 0, 5) || blocks[block] == null) {
            return -1;
        }
        int bits = 0;
        for (int[] g : tellWays()) {
            bits |= 1 << g[block];
        }
        return bits;
    }

    private static int notNull(Object[] row) {
        return (int) Arrays.stream(row).filter(x -> x != null).count();
    }

    int count(int what) {
        int cuts = 0;
        for (Place p : places) {
            cuts += p == null ? 0 : p.cuts.size();
        }
        int lines = 0;
        for (List<Line> order : orders) {
            lines += order.size();
        }
        int[] all = {notNull(names), notNull(places), cuts, lines, notNull(blocks), notNull(gaps), tape.length()};
        return in(what, 0, 6) ? all[what] : -1;
    }
}
