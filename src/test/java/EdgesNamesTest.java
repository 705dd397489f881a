/** Sentences about a new object, the TAPE and NAMES that tell a boundary: promises 1 to 5. */
public final class EdgesNamesTest {
    private static final int NONE = NamesUnder.NONE;

    private static boolean isSign(int b) {
        return b == 10 || (b >= 32 && b <= 126);
    }

    private static void newObject() {
        Check.says("No NAME, no PLACE.");
        NamesUnder x = new NamesUnder();
        for (int i = 0; i < 7; i++) {
            Check.same("count " + i, x.count(i), 0);
        }
        for (int i = 0; i < 8; i++) {
            Check.same("known " + i, x.known(i, 0), NONE);
            Check.same("alike " + i, x.alike(i, i), NONE);
            Check.same("far " + i, x.far(0, i, 3), NONE);
        }
        for (int i = 0; i < 12; i++) {
            Check.same("cut " + i, x.cut(i, 0, 0, NONE), NONE);
            Check.not("clean " + i, x.clean(i));
            Check.noLayer(x, i, 0, 0);
            Check.same("fits " + i, x.fits(i, 0), NONE);
            Check.same("crowded " + i, x.crowded(i, 0), NONE);
            Check.same("stood " + i, x.stood(i, 0), NONE);
            Check.same("ran " + i, x.ran(i, 0), NONE);
            Check.same("made " + i, x.made(i, 0, 0), NONE);
        }
    }

    private static void newObjectAsked() {
        Check.says("No NAME, no PLACE.");
        NamesUnder x = new NamesUnder();
        Check.same("stories 0", x.stories(0), 1);
        Check.same("stories 1", x.stories(1), 0);
        Check.same("stories 2", x.stories(2), 0);
        for (int hand = 0; hand < 6; hand++) {
            Check.same("story of " + hand, x.story(0, hand), NONE);
            Check.same("odds of " + hand, x.odds(hand, 0), NONE);
            Check.same("between " + hand, x.between(hand, hand), NONE);
        }
        Check.same("next", x.next(0), NONE);
        Check.same("doubt", x.doubt(), NONE);
        for (int what = 0; what < 3; what++) {
            Check.same("agrees " + what, x.agrees(what), 0);
        }
        for (int reign = 0; reign < 6; reign++) {
            Check.same("missed by " + reign, x.missed(reign), 0);
        }
        Check.same("ways", x.ways(0), 1);
        for (int block = 0; block < 6; block++) {
            Check.same("back " + block, x.back(block), NONE);
        }
    }

    private static void twentyFourSigns() {
        Check.says("Up to 24 signs come behind the TAPE");
        String all = "abcdefghijklmnopqrstuvwx";
        for (int size = 0; size <= 24; size++) {
            NamesUnder x = new NamesUnder();
            String s = all.substring(0, size);
            Check.same("of " + size, x.feed(Signs.pack(s, 0), Signs.pack(s, 8), Signs.pack(s, 16)), size);
            Check.same("and as many again", x.feed(Signs.pack(s, 0), Signs.pack(s, 8), Signs.pack(s, 16)), 2 * size);
            Check.same("count", x.count(6), 2 * size);
        }
    }

    private static void highestFirst() {
        Check.says("the bytes of a, b, c, of each the highest first");
        NamesUnder x = new NamesUnder();
        x.feed(0x6100620000000063L, 0x0000006400000000L, 0x6500006600670068L);
        x.name(0, 0, false);
        Check.same("abcdefgh", Tell.name(x, 1, "abcdefgh"), 2);
        Check.same("not the other way round", Tell.name(x, 1, "hgfedcba"), 0);
        x.feed(0x7a00000000000000L, 0L, 0L);
        x.feed(0x7900000000000000L, 0L, 0L);
        Check.same("behind what is there", x.name(2, 0, false), 0);
        Check.same("zy", Tell.name(x, 3, "zy"), 2);
    }

    private static void otherSigns() {
        Check.says("others than 10 and 32 .. 126");
        for (int b = 0; b < 256; b++) {
            for (int shift = 0; shift < 64; shift += 8) {
                NamesUnder x = new NamesUnder();
                int one = isSign(b) ? 1 : 0;
                Check.same("in a, " + b, x.feed((long) b << shift, 0L, 0L), one);
                Check.same("in b, " + b, x.feed(0L, (long) b << shift, 0L), 2 * one);
                Check.same("in c, " + b, x.feed(0L, 0L, (long) b << shift), 3 * one);
            }
        }
        Check.same("all bits", new NamesUnder().feed(-1L, -1L, -1L), 0);
        Check.same("the least longs", new NamesUnder().feed(Long.MIN_VALUE, Long.MIN_VALUE, Long.MIN_VALUE), 0);
        Check.same("the greatest longs", new NamesUnder().feed(Long.MAX_VALUE, Long.MAX_VALUE, Long.MAX_VALUE), 0);
    }

    private static NamesUnder blanks(int number) {
        NamesUnder x = new NamesUnder();
        Check.same("so many blanks", Signs.feed(x, " ".repeat(number)), number);
        return x;
    }

    private static void thousandSigns() {
        Check.says("The TAPE has at most 1,000 signs, 10 and 32 .. 126");
        Check.same("999 and 1", Signs.feed(blanks(999), "a"), 1000);
        Check.same("999 and 2", Signs.feed(blanks(999), "ab"), 1000);
        Check.same("998 and 1", Signs.feed(blanks(998), "a"), 999);
        Check.same("1,000 and 1", Signs.feed(blanks(1000), "a"), 1000);
        Check.same("1,000 and 24", Signs.feed(blanks(1000), "a".repeat(24)), 1000);
        Check.same("976 and 24", Signs.feed(blanks(976), "a".repeat(24)), 1000);
        Check.same("977 and 24", Signs.feed(blanks(977), "a".repeat(24)), 1000);
        NamesUnder x = blanks(1000);
        Check.same("count of a full one", x.count(6), 1000);
        Check.same("nothing comes behind a full one", x.feed(0L, 0L, 0L), 1000);
    }

    private static void beyondIsLeftOut() {
        Check.says("and what is beyond 1,000, are left out: how many there are.");
        NamesUnder x = blanks(992);
        Check.same("the ninth letter is beyond", Signs.feed(x, "abcdefghi"), 1000);
        Check.same("eight are a word", x.name(0, 0, false), 0);
        Check.same("these eight", Tell.name(x, 1, "abcdefgh"), 2);
        x = blanks(991);
        Check.same("nine letters", Signs.feed(x, "abcdefghi"), 1000);
        Check.same("nine are none", x.name(0, 0, false), 1);
        x = blanks(999);
        Signs.feed(x, "abcdefgh");
        Check.same("one letter", x.name(0, 0, false), 0);
        Check.same("one letter", x.known(0, 3), 1);
        Check.same("1,000 blanks are no word", blanks(1000).name(0, 0, false), 1);
    }

    private static void takesTheTape() {
        Check.says("what reads it takes it: it is empty then.");
        NamesUnder x = Tell.named("hati");
        Tell.wall(x, 0, 6, Tell.by(0, 0, 0), Tell.by(0, 1, NONE));
        Tell.name(x, 1, "hato");
        Check.same("name", x.count(6), 0);
        Tell.traces(x, 0, 0, "h...");
        Check.same("traces", x.count(6), 0);
        Tell.order(x, 0, "out 0 when 1;");
        Check.same("order", x.count(6), 0);
        Check.same("an empty one is no word", x.name(2, 0, false), 1);
        Check.same("nor traces", x.traces(0, 0), 1);
        Check.same("but an order", x.order(0), 0);
        Check.same("of no lines", x.count(3), 0);
    }

    private static void oneWord() {
        Check.says("WORDS of letters a .. z, 1 to 8");
        for (int size = 0; size <= 12; size++) {
            boolean word = size >= 1 && size <= 8;
            NamesUnder x = new NamesUnder();
            Check.same("letters " + size, Tell.name(x, 0, "a".repeat(size)), word ? 0 : 1);
            Check.same("letters known " + size, x.known(0, 3), word ? size : NONE);
            Check.same("with blanks around " + size, Tell.name(x, 1, " \n" + "b".repeat(size) + "\n "), word ? 0 : 1);
        }
        for (char c = 33; c <= 126; c++) {
            boolean letter = c >= 'a' && c <= 'z';
            String one = String.valueOf(c);
            Check.same("alone " + c, Tell.name(new NamesUnder(), 0, one), letter ? 0 : 1);
            Check.same("first " + c, Tell.name(new NamesUnder(), 0, one + "ha"), letter ? 0 : 1);
            Check.same("within " + c, Tell.name(new NamesUnder(), 0, "h" + one + "a"), letter ? 0 : 1);
            Check.same("last " + c, Tell.name(new NamesUnder(), 0, "haaaaaa" + one), letter ? 0 : 1);
        }
    }

    private static void blanksAround() {
        Check.says("The TAPE, if it is one WORD (blanks around it are nothing)");
        String[] sound = {"seti", " seti", "seti ", "\nseti", "seti\n", " \n seti \n ", " ".repeat(996) + "seti"};
        for (String s : sound) {
            Check.same("'" + s + "'", Tell.name(new NamesUnder(), 3, s), 0);
        }
    }

    private static void notOneWord() {
        Check.says("1: it is not one WORD");
        String[] none = {"", " ", "\n", " \n ", "se ti", "se\nti", "s e", "seti a", "a seti", "seti\n.", "; seti"};
        NamesUnder told = new NamesUnder();
        Tell.name(told, 3, "seti", 2, true);
        for (String s : none) {
            NamesUnder x = new NamesUnder();
            Check.same("'" + s + "'", Tell.name(x, 3, s), 1);
            Check.same("nothing is told", x.count(0), 0);
            Check.same("'" + s + "' for a name that is told", Tell.name(told, 3, s, 5, false), 1);
            Check.same("it is as it was", told.known(3, 0) * 100 + told.known(3, 1) * 10 + told.known(3, 3), 214);
        }
    }

    private static void allDifferent() {
        Check.says("2: another NAME is so");
        NamesUnder x = Tell.named("seti");
        for (int i = 1; i < 8; i++) {
            Check.same("as another one " + i, Tell.name(x, i, "seti"), 2);
            Check.same("not told " + i, x.known(i, 0), NONE);
        }
        Check.same("with blanks", Tell.name(x, 7, " seti "), 2);
        Check.same("of another reign and she", Tell.name(x, 7, "seti", 5, true), 2);
        String[] near = {"set", "setis", "sety", "aeti", "etis", "setii"};
        for (int i = 0; i < near.length; i++) {
            Check.same("near it " + near[i], Tell.name(x, i + 1, near[i]), 0);
        }
        Check.same("the last number as the first", Tell.name(x, 7, "seti"), 2);
        Tell.name(x, 7, "last");
        Check.same("the first number as the last", Tell.name(x, 0, "last"), 2);
        Check.same("the first is as it was", x.known(0, 3) * 10 + x.known(0, 2), 46);
        Check.same("itself again", Tell.name(x, 0, "seti"), 0);
    }

    private static void anew() {
        Check.says("is a NAME, she or he, of a REIGN, in place of what it was: 0");
        NamesUnder x = Tell.named("ramesses");
        Check.same("anew", Tell.name(x, 0, "i", 5, true), 0);
        int[] due = {5, 1, 1, 1};
        for (int what = 0; what < 4; what++) {
            Check.same("what " + what, x.known(0, what), due[what]);
        }
        Check.same("still one", x.count(0), 1);
        Check.same("what it was is free", Tell.name(x, 1, "ramesses"), 0);
        Check.same("nothing of what it was is left", x.alike(0, 1), 0);
        Tell.name(x, 1, "ia");
        Check.same("ia of ramesses", x.alike(0, 1), 1);
        Check.same("two", x.count(0), 2);
        Tell.name(x, 0, "mm", 0, false);
        int[] dueThen = {0, 0, 6, 2};
        for (int what = 0; what < 4; what++) {
            Check.same("what then " + what, x.known(0, what), dueThen[what]);
        }
    }

    private static void numbersAndReigns() {
        Check.says("NONE: no such number, REIGN (the TAPE is empty in any case)");
        Check.range("number", 0, 7, v -> Tell.name(new NamesUnder(), v, "seti") == 0);
        Check.range("reign", 0, 5, v -> Tell.name(new NamesUnder(), 0, "seti", v, true) == 0);
        Check.outside("number", 0, 7, v -> Tell.name(new NamesUnder(), v, "seti") != NONE);
        Check.outside("reign", 0, 5, v -> Tell.name(new NamesUnder(), 7, "seti", v, true) != NONE);
        Check.outside("number with two words", 0, 7, v -> Tell.name(new NamesUnder(), v, "se ti") != NONE);
        NamesUnder x = Tell.named("seti");
        int[][] calls = {{1, 0}, {8, 0}, {-1, 0}, {1, 6}, {1, -1}};
        for (String text : new String[] {"hati", "ha ti", "seti", ""}) {
            for (int[] c : calls) {
                Tell.name(x, c[0], text, c[1], false);
                Check.same("the tape behind " + text + " as " + c[0] + " of " + c[1], x.count(6), 0);
            }
        }
    }

    private static void heOrShe() {
        Check.says("NAMES 0 to 7: WORDS of letters a .. z, 1 to 8, all different, each he or she");
        for (int pattern = 0; pattern < 256; pattern++) {
            NamesUnder x = new NamesUnder();
            for (int i = 0; i < 8; i++) {
                Tell.name(x, i, "s" + (char) ('a' + i), 0, (pattern >> i & 1) == 1);
            }
            for (int i = 0; i < 8; i++) {
                Check.same("she " + i + " of " + pattern, x.known(i, 1), pattern >> i & 1);
            }
        }
        NamesUnder x = Tell.named("sa", "sb", "sc", "sd", "se", "sf", "sg", "sh");
        for (int i = 0; i < 8; i++) {
            for (int other = 0; other < 8; other++) {
                int due = i == other ? 0 : 2;
                Check.same("name " + i + " as " + other, Tell.name(x, i, "s" + (char) ('a' + other)), due);
            }
        }
    }

    private static void eightNames() {
        Check.says("each of a REIGN 0 to 5 (in which it was a king's; several may be)");
        for (int reign = 0; reign < 6; reign++) {
            NamesUnder x = new NamesUnder();
            for (int i = 0; i < 8; i++) {
                Check.same("count", x.count(0), i);
                Check.same("name " + i, Tell.name(x, i, "s" + (char) ('a' + i), reign, false), 0);
            }
            for (int i = 0; i < 8; i++) {
                Check.same("reign of " + i, x.known(i, 0), reign);
            }
            Check.same("count", x.count(0), 8);
        }
    }

    private static void widths() {
        Check.says("WIDTH of a letter: 1 of f i j l r t, 3 of m w, 2 of others; of a NAME the sum.");
        for (char c = 'a'; c <= 'z'; c++) {
            int width = "fijlrt".indexOf(c) >= 0 ? 1 : c == 'm' || c == 'w' ? 3 : 2;
            for (int size = 1; size <= 8; size++) {
                NamesUnder x = Tell.named(String.valueOf(c).repeat(size));
                Check.same("width of " + size + " " + c, x.known(0, 2), width * size);
            }
            NamesUnder x = Tell.named("i" + c + "m");
            Check.same("width of i" + c + "m", x.known(0, 2), 4 + width);
        }
        for (int width = 1; width <= 24; width++) {
            Check.same("width " + width, Tell.named(Tell.wide(width)).known(0, 2), width);
        }
    }

    private static void known() {
        Check.says("Of a NAME, what 0: its REIGN, 1: 1 she, 0 he, 2: WIDTH, 3: how many letters; NONE: not told, others.");
        NamesUnder x = new NamesUnder();
        for (int i = 0; i < 8; i++) {
            Tell.name(x, i, "a".repeat(i + 1));
        }
        Check.range("what", 0, 3, v -> x.known(0, v) != NONE);
        Check.range("name", 0, 7, v -> x.known(v, 3) != NONE);
        for (int i = 0; i < 8; i++) {
            Check.same("letters of " + i, x.known(i, 3), i + 1);
        }
        NamesUnder y = new NamesUnder();
        Tell.name(y, 4, "seti", 3, true);
        for (int i = 0; i < 8; i++) {
            for (int what = 0; what < 4; what++) {
                Check.same("known " + i + " " + what, y.known(i, what), i != 4 ? NONE : new int[] {3, 1, 6, 4}[what]);
            }
        }
        Tell.name(y, 4, "seti", 0, false);
        for (int what = 0; what < 4; what++) {
            Check.same("he, of reign 0, what " + what, y.known(4, what), new int[] {0, 0, 6, 4}[what]);
        }
    }

    /** How many letters put in, left out or changed make one word of the other. */
    private static int steps(String a, String b) {
        int[][] d = new int[a.length() + 1][b.length() + 1];
        for (int i = 0; i <= a.length(); i++) {
            for (int j = 0; j <= b.length(); j++) {
                if (i == 0 || j == 0) {
                    d[i][j] = i + j;
                } else {
                    int change = d[i - 1][j - 1] + (a.charAt(i - 1) == b.charAt(j - 1) ? 0 : 1);
                    d[i][j] = Math.min(change, 1 + Math.min(d[i - 1][j], d[i][j - 1]));
                }
            }
        }
        return d[a.length()][b.length()];
    }

    private static void alike(String a, String b) {
        NamesUnder x = Tell.named(a, b);
        int due = steps(a, b) == 1 ? 1 : 0;
        Check.same(a + " and " + b, x.alike(0, 1), due);
        Check.same(b + " and " + a, x.alike(1, 0), due);
        Check.same(a + " and itself", x.alike(0, 0), 0);
    }

    private static void oneLetter() {
        Check.says("ALIKE are two NAMES of which one becomes the other by one letter put in, left out or changed.");
        String base = "abcdefgh";
        for (int at = 0; at < 8; at++) {
            String less = base.substring(0, at) + base.substring(at + 1);
            String changed = base.substring(0, at) + "z" + base.substring(at + 1);
            Check.same("left out " + at, Tell.named(base, less).alike(0, 1), 1);
            Check.same("put in " + at, Tell.named(less, base).alike(0, 1), 1);
            Check.same("changed " + at, Tell.named(base, changed).alike(0, 1), 1);
            for (int other = 0; other < at; other++) {
                String twice = changed.substring(0, other) + "y" + changed.substring(other + 1);
                Check.same("changed twice " + at + " " + other, Tell.named(base, twice).alike(0, 1), 0);
                String lessTwice = less.substring(0, other) + less.substring(other + 1);
                Check.same("left out twice " + at + " " + other, Tell.named(base, lessTwice).alike(0, 1), 0);
            }
        }
        for (int at = 0; at < 7; at++) {
            String turned = base.substring(0, at) + base.charAt(at + 1) + base.charAt(at) + base.substring(at + 2);
            Check.same("two letters turned " + at, Tell.named(base, turned).alike(0, 1), 0);
        }
    }

    private static void smallWords() {
        Check.says("ALIKE are two NAMES of which one becomes the other by one letter put in, left out or changed.");
        String[] words = {"a", "b", "aa", "ab", "ba", "bb", "aaa", "aab", "aba", "baa", "abb", "bab", "bba", "bbb",
            "aaaa", "abab", "baba", "bbbb"};
        for (int i = 0; i < words.length; i++) {
            for (int j = 0; j < i; j++) {
                alike(words[i], words[j]);
            }
        }
    }

    private static void alikeOfNone() {
        Check.says("Whether two NAMES are ALIKE: 1 or 0; NONE: one is not told.");
        NamesUnder x = new NamesUnder();
        for (int i = 0; i < 8; i++) {
            Tell.name(x, i, "s" + (char) ('a' + i));
        }
        Check.range("first", 0, 7, v -> x.alike(v, 3) == (v == 3 ? 0 : 1));
        Check.range("second", 0, 7, v -> x.alike(3, v) == (v == 3 ? 0 : 1));
        Check.outside("first", 0, 7, v -> x.alike(v, 3) != NONE);
        Check.outside("second", 0, 7, v -> x.alike(3, v) != NONE);
        NamesUnder y = Tell.named("seti");
        Check.same("the second one is not told", y.alike(0, 1), NONE);
        Check.same("the first one is not told", y.alike(1, 0), NONE);
        Check.same("both are not told", y.alike(1, 1), NONE);
    }

    public static void main(String[] args) {
        newObject();
        newObjectAsked();
        twentyFourSigns();
        highestFirst();
        otherSigns();
        thousandSigns();
        beyondIsLeftOut();
        takesTheTape();
        oneWord();
        blanksAround();
        notOneWord();
        allDifferent();
        anew();
        numbersAndReigns();
        heOrShe();
        eightNames();
        widths();
        known();
        oneLetter();
        smallWords();
        alikeOfNone();
        Check.end();
    }
}
