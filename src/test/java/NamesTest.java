/** Promises 1 to 5: a new object, feed, name, known, alike. */
public final class NamesTest {
    private static int tell(NamesUnder x, int name, String word, int reign, boolean she) {
        Signs.feed(x, word);
        return x.name(name, reign, she);
    }

    private static void newObject() {
        NamesUnder x = new NamesUnder();
        for (int i = 0; i < 7; i++) {
            Check.same("1: count of a new object " + i, x.count(i), 0);
        }
        for (int i = 0; i < 8; i++) {
            Check.same("1: known of a new object " + i, x.known(i, 0), -1);
        }
        for (int i = 0; i < 12; i++) {
            Check.same("1: cut at a place not told " + i, x.cut(i, 0, 0, -1), -1);
        }
        Check.same("1: stories", x.stories(0), 1);
        Check.same("1: ways", x.ways(0), 1);
        Check.same("1: doubt", x.doubt(), -1);
    }

    private static void feed() {
        NamesUnder x = new NamesUnder();
        Check.same("2: nothing", x.feed(0, 0, 0), 0);
        Check.same("2: highest first", x.feed(Signs.pack("abc", 0), Signs.pack("de", 0), Signs.pack("f", 0)), 6);
        Check.same("2: name of what came", x.name(0, 0, false), 0);
        tell(x, 1, "abcdef", 0, false);
        Check.same("2: order of signs", x.count(0), 1);
        // 9, 11, 31, 127, 128 and 255 are no signs; 10, 32 and 126 are.
        Check.same("2: no signs", x.feed(0x090b1f7f80ff0d00L, -1L, 0x8000000000000080L), 0);
        Check.same("2: edges of signs", x.feed(0x0a207e0000000000L, 0L, 0x000000000000000aL), 4);
        Check.same("2: count", x.count(6), 4);
    }

    private static void feedBeyond() {
        NamesUnder x = new NamesUnder();
        long a = Signs.pack("aaaaaaaa", 0);
        for (int i = 1; i <= 41; i++) {
            Check.same("2: feed " + i, x.feed(a, a, a), 24 * i);
        }
        Check.same("2: up to 1000", x.feed(a, a, a), 1000);
        Check.same("2: beyond 1000", x.feed(a, a, a), 1000);
        Check.same("2: count", x.count(6), 1000);
        Check.same("2: a long word", x.name(0, 0, false), 1);
        Check.same("2: taken", x.count(6), 0);
        Signs.feed(x, " ".repeat(1000));
        Check.same("3: 1,000 blanks", x.name(0, 0, false), 1);
        Signs.feed(x, " ".repeat(992) + "ramesses");
        Check.same("3: behind 992 blanks", x.name(0, 0, false), 0);
        Check.same("2: from the start again", x.feed(a, 0, 0), 8);
    }

    private static void name() {
        NamesUnder x = new NamesUnder();
        Check.same("3: a word", tell(x, 0, "seti", 5, false), 0);
        Check.same("3: blanks around", tell(x, 7, " \n  teti\n ", 0, true), 0);
        Check.same("3: eight letters", tell(x, 1, "ramesses", 0, false), 0);
        Check.same("3: nine letters", tell(x, 2, "ramessess", 0, false), 1);
        Check.same("3: none", tell(x, 2, "", 0, false), 1);
        Check.same("3: blanks alone", tell(x, 2, " \n ", 0, false), 1);
        Check.same("3: two words", tell(x, 2, "a b", 0, false), 1);
        Check.same("3: two words by 10", tell(x, 2, "a\nb", 0, false), 1);
        Check.same("3: a great letter", tell(x, 2, "Seti", 0, false), 1);
        Check.same("3: a digit", tell(x, 2, "a1", 0, false), 1);
        Check.same("3: signs right around a .. z", tell(x, 2, "`", 0, false), 1);
        Check.same("3: signs right around a .. z", tell(x, 2, "{", 0, false), 1);
        Check.same("3: a full stop", tell(x, 2, "a.", 0, false), 1);
        Check.same("3: another is so", tell(x, 2, "seti", 1, false), 2);
        Check.same("3: itself is so", tell(x, 0, "seti", 4, true), 0);
        Check.same("3: reign anew", x.known(0, 0), 4);
        Check.same("3: she anew", x.known(0, 1), 1);
        Check.same("3: in place of", tell(x, 0, "az", 3, false), 0);
        Check.same("3: its word is free", tell(x, 2, "seti", 1, false), 0);
        Check.same("3: told", x.count(0), 4);
    }

    private static void nameWrong() {
        NamesUnder x = new NamesUnder();
        int[][] wrong = {{-1, 0}, {8, 0}, {0, -1}, {0, 6}, {Integer.MIN_VALUE, 0}, {Integer.MAX_VALUE, 0}, {0, Integer.MAX_VALUE}};
        for (int[] w : wrong) {
            Check.same("3: name " + w[0] + " reign " + w[1], tell(x, w[0], "seti", w[1], false), -1);
            Check.same("3: tape is empty", x.count(6), 0);
        }
        tell(x, 0, "seti", 0, false);
        Check.same("3: no such number goes ahead", tell(x, 8, "two words", 0, false), -1);
        Check.same("3: no such reign goes ahead", tell(x, 1, "seti", 6, false), -1);
        tell(x, 1, "a b", 0, false);
        Check.same("3: tape is empty behind 1", x.count(6), 0);
        tell(x, 1, "seti", 0, false);
        Check.same("3: tape is empty behind 2", x.count(6), 0);
        Check.same("3: nothing told by that", x.count(0), 1);
    }

    private static void known() {
        NamesUnder x = new NamesUnder();
        tell(x, 3, "fijlrt", 2, true);
        tell(x, 4, "mw", 5, false);
        tell(x, 5, "abcdegh", 0, false);
        tell(x, 6, "knopqs", 0, false);
        tell(x, 7, "uvxyz", 0, false);
        Check.same("4: reign", x.known(3, 0), 2);
        Check.same("4: she", x.known(3, 1), 1);
        Check.same("4: he", x.known(4, 1), 0);
        Check.same("4: width of f i j l r t", x.known(3, 2), 6);
        Check.same("4: width of m w", x.known(4, 2), 6);
        Check.same("4: width of others", x.known(5, 2), 14);
        Check.same("4: width of others", x.known(6, 2), 12);
        Check.same("4: width of others", x.known(7, 2), 10);
        Check.same("4: letters", x.known(5, 3), 7);
        Check.same("4: what 4", x.known(3, 4), -1);
        Check.same("4: what -1", x.known(3, -1), -1);
        Check.same("4: not told", x.known(2, 0), -1);
        Check.same("4: no such", x.known(8, 0), -1);
        Check.same("4: no such", x.known(-1, 0), -1);
        tell(x, 3, "wow", 2, true);
        Check.same("4: width anew", x.known(3, 2), 8);
        Check.same("4: letters anew", x.known(3, 3), 3);
    }

    private static void alike() {
        NamesUnder x = new NamesUnder();
        String[] words = {"hati", "hato", "hat", "ahati", "haati", "tahi", "iti", "hatito"};
        int[][] due = {
            {0, 1, 1, 1, 1, 0, 0, 0}, {1, 0, 1, 0, 0, 0, 0, 0}, {1, 1, 0, 0, 0, 0, 0, 0}, {1, 0, 0, 0, 0, 0, 0, 0},
            {1, 0, 0, 0, 0, 0, 0, 0}, {0, 0, 0, 0, 0, 0, 0, 0}, {0, 0, 0, 0, 0, 0, 0, 0}, {0, 0, 0, 0, 0, 0, 0, 0}};
        for (int i = 0; i < 7; i++) {
            tell(x, i, words[i], 0, false);
        }
        Check.same("5: one not told", x.alike(0, 7), -1);
        Check.same("5: one not told", x.alike(7, 0), -1);
        tell(x, 7, words[7], 0, false);
        for (int a = 0; a < 8; a++) {
            for (int b = 0; b < 8; b++) {
                Check.same("5: alike " + words[a] + " " + words[b], x.alike(a, b), due[a][b]);
            }
        }
        Check.same("5: no such", x.alike(0, 8), -1);
        Check.same("5: no such", x.alike(-1, 0), -1);
        tell(x, 0, "a", 0, false);
        tell(x, 1, "b", 0, false);
        Check.same("5: words of one letter", x.alike(0, 1), 1);
        tell(x, 0, "aa", 0, false);
        tell(x, 1, "aaa", 0, false);
        tell(x, 2, "aaaa", 0, false);
        Check.same("5: the same letter again", x.alike(0, 1), 1);
        Check.same("5: twice again", x.alike(0, 2), 0);
    }

    public static void main(String[] args) {
        newObject();
        feed();
        feedBeyond();
        name();
        nameWrong();
        known();
        alike();
        Check.end();
    }
}
