/** Sentences about STORIES that tell a boundary: promises 13 to 20. */
public final class EdgesStoriesTest {
    private static final int NONE = NamesUnder.NONE;
    private static final int FIRST = Tell.FIRST;
    private static final int OUT = Tell.OUT;
    private static final int HACKED = Tell.HACKED;
    private static final int PUT_IN = Tell.PUT_IN;
    private static final int MENDED = Tell.MENDED;
    /** Too wide for every wall of these tests. */
    private static final int WIDE = 6;
    private static final int SPACE = 4;

    /** NAME i, as wide as the SPACE, is of REIGN i; NAME 6 is too wide to FIT anywhere. */
    private static NamesUnder named() {
        NamesUnder x = new NamesUnder();
        for (int i = 0; i < 6; i++) {
            Tell.name(x, i, "a" + (char) ('a' + i), i, false);
        }
        Tell.name(x, WIDE, "mmmmmmmm", 0, false);
        return x;
    }

    private static NamesUnder walled(int[]... cuts) {
        NamesUnder x = named();
        Tell.wall(x, 0, SPACE, cuts);
        return x;
    }

    private static NamesUnder dated(NamesUnder x, int... reigns) {
        for (int hand = 0; hand < reigns.length; hand++) {
            Check.so("dated " + hand, x.dated(hand, reigns[hand]));
        }
        return x;
    }

    private static void stories(String what, NamesUnder x, boolean some) {
        Check.so(what, x.stories(0) > 0 == some);
    }

    private static void datedRanges() {
        Check.says("A HAND is DATED (NONE: not): true; false: no such HAND, REIGN.");
        Check.range("hand", 0, 5, v -> new NamesUnder().dated(v, 0));
        Check.range("reign", -1, 5, v -> new NamesUnder().dated(0, v));
        NamesUnder x = walled(Tell.by(3, FIRST, 0));
        Check.same("at first not dated", x.stories(0), 6);
        for (int reign = 0; reign < 6; reign++) {
            Check.so("dated", x.dated(3, reign));
            Check.same("one story", x.stories(0), 1);
            Check.same("its reign", x.story(0, 3), reign);
            Check.not("no such reign", x.dated(3, 6));
            Check.not("no such reign", x.dated(3, -2));
            Check.not("no such hand", x.dated(6, 0));
            Check.not("no such hand", x.dated(-1, 0));
            Check.same("as it was", x.story(0, 3), reign);
        }
        Check.so("not dated", x.dated(3, NONE));
        Check.same("six again", x.stories(0), 6);
    }

    private static void handsWithCuts() {
        Check.says("STORIES: for each HAND that has CUTS a REIGN (DATED ones have theirs)");
        NamesUnder x = named();
        int due = 1;
        int bits = 0;
        for (int hand = 5; hand >= 0; hand--) {
            x.place(hand, SPACE, 0, 0, 0);
            Check.same("a place without cuts", x.stories(0), due);
            Tell.pile(x, hand, Tell.by(hand, FIRST, 0));
            due *= 6;
            bits |= 1 << hand;
            Check.same("how many", x.stories(0), due);
            Check.same("hands", x.stories(2), bits);
        }
        Check.same("six hands", x.stories(0), 46656);
        x.clean(2);
        Check.same("five hands", x.stories(0), 7776);
        Check.same("without 2", x.stories(2), 59);
        x.dated(2, 4);
        Check.same("a dated hand without cuts is nothing", x.stories(0), 7776);
        Check.same("nor has it a reign", x.story(0, 2), NONE);
        x.dated(5, 5);
        Check.same("a dated hand with cuts", x.stories(0), 1296);
        Tell.wall(x, 2, SPACE, Tell.by(2, FIRST, 0));
        Check.same("dated before it had cuts", x.stories(0), 1296);
        Check.same("has its reign", x.story(0, 2), 4);
    }

    private static void notAhead() {
        Check.says("(a) the HAND of no CUT is of a REIGN ahead of that of a CUT below it");
        for (int a = 0; a < 6; a++) {
            for (int b = 0; b < 6; b++) {
                for (int gone : new int[] {OUT, HACKED}) {
                    NamesUnder x = dated(walled(Tell.by(0, FIRST, 0), Tell.by(1, gone, NONE)), a, b);
                    stories(gone + " in " + b + " over first in " + a, x, b >= a && b > 0);
                }
                NamesUnder y = dated(walled(Tell.by(2, FIRST, 0), Tell.by(0, OUT, NONE), Tell.by(1, PUT_IN, 0)), a, b);
                stories("put in in " + b + " over out in " + a, y, b >= a && a > 0);
                NamesUnder z = dated(walled(Tell.by(0, FIRST, 0), Tell.by(2, OUT, NONE), Tell.by(1, PUT_IN, 0)), a, b);
                stories("put in in " + b + ", two below in " + a, z, b >= a && b > 0);
                NamesUnder w = dated(walled(Tell.by(0, FIRST, 0), Tell.by(2, OUT, NONE), Tell.by(2, PUT_IN, 0),
                        Tell.by(2, HACKED, NONE), Tell.by(2, PUT_IN, 0), Tell.by(1, OUT, NONE)), a, b);
                stories("the sixth in " + b + ", the first in " + a, w, b >= a && b > 0);
            }
        }
        NamesUnder x = named();
        Tell.wall(x, 0, SPACE, Tell.by(0, FIRST, 0));
        Tell.wall(x, 1, SPACE, Tell.by(1, FIRST, 0));
        stories("at another place", dated(x, 5, 0), true);
    }

    private static void firstAndPutIn() {
        Check.says("for each CUT of 0 and 3 there is a NAME that FITS it, whose REIGN is not behind its HAND's");
        for (int name = 0; name < 6; name++) {
            for (int hand = 0; hand < 6; hand++) {
                NamesUnder x = dated(walled(Tell.by(0, FIRST, name)), hand);
                stories("first " + name + " in " + hand, x, name <= hand);
                if (hand > 0) {
                    NamesUnder y = walled(Tell.by(1, FIRST, 0), Tell.by(1, OUT, NONE), Tell.by(0, PUT_IN, name));
                    stories("put in " + name + " in " + hand, dated(y, hand, 1), name <= hand);
                }
            }
        }
        stories("none fits first", walled(Tell.by(0, FIRST, WIDE)), false);
        stories("none fits put in", walled(Tell.by(0, FIRST, 0), Tell.by(1, OUT, NONE), Tell.by(2, PUT_IN, WIDE)), false);
        for (int name = 0; name < 8; name++) {
            NamesUnder y = new NamesUnder();
            Tell.name(y, name, "aa", 3, false);
            Tell.wall(y, 11, SPACE, Tell.by(0, FIRST, NONE), Tell.by(5, OUT, NONE));
            Check.same("by name " + name + " alone, first", y.odds(0, 3), 2);
            Check.same("by name " + name + " alone, out", y.odds(5, 3), 0);
            Check.same("by name " + name + " alone, out", y.odds(5, 4), 2);
            Check.same("name " + name + " stood", y.stood(11, 0), 1 << name);
        }
        NamesUnder x = new NamesUnder();
        Tell.wall(x, 0, SPACE, Tell.by(0, FIRST, NONE));
        stories("without names", x, false);
        Tell.name(x, 0, "aa", 5, false);
        Check.same("one name of the last reign", x.stories(0), 1);
        Tell.name(x, 1, "ab", 4, false);
        Check.same("another one of 4", x.stories(0), 2);
    }

    private static void mendedFits() {
        Check.says("for each of 4 one that FITS");
        for (int name = 0; name < 6; name++) {
            for (int hand = 2; hand < 6; hand++) {
                NamesUnder x = walled(Tell.by(1, FIRST, NONE), Tell.by(1, OUT, NONE), Tell.by(0, MENDED, name));
                stories("mended " + name + " in " + hand, dated(x, hand, 1), true);
            }
        }
        NamesUnder x = walled(Tell.by(0, FIRST, NONE), Tell.by(1, OUT, NONE), Tell.by(2, MENDED, WIDE));
        stories("none fits", x, false);
        NamesUnder y = walled(Tell.by(0, FIRST, NONE), Tell.by(1, OUT, NONE), Tell.by(2, MENDED, 0));
        Tell.traces(y, 0, 0, "ab");
        stories("not by the traces below", y, false);
        Tell.traces(y, 0, 0, "aa");
        stories("by the traces below", y, true);
    }

    private static void goneNames() {
        Check.says("for each OUT or HACKED there is one that FITS the CUT below it, whose REIGN is ahead of the HAND's");
        for (int gone : new int[] {OUT, HACKED}) {
            for (int name = 0; name < 6; name++) {
                for (int hand = 0; hand < 6; hand++) {
                    NamesUnder x = walled(Tell.by(1, FIRST, name), Tell.by(0, gone, NONE));
                    stories(gone + " of first " + name + " in " + hand, dated(x, hand), name < hand);
                    NamesUnder y = walled(Tell.by(1, FIRST, 0), Tell.by(1, OUT, NONE), Tell.by(1, PUT_IN, name),
                            Tell.by(0, gone, NONE));
                    stories(gone + " of put in " + name + " in " + hand, dated(y, hand), name < hand && hand > 0);
                    NamesUnder z = walled(Tell.by(1, FIRST, NONE), Tell.by(1, OUT, NONE), Tell.by(2, MENDED, name),
                            Tell.by(0, gone, NONE));
                    stories(gone + " of mended " + name + " in " + hand, dated(z, hand, 1, 2), name < hand && hand >= 2);
                }
            }
        }
    }

    private static void goneNotBehindBelow() {
        Check.says("and, if that CUT is of 0 or 3, not behind that one's HAND's");
        NamesUnder x = walled(Tell.by(0, FIRST, 3), Tell.by(1, OUT, NONE));
        stories("first in 3, out in 4", dated(x, 3, 4), true);
        stories("first in 2, out in 4", dated(x, 2, 4), false);
        NamesUnder y = walled(Tell.by(2, FIRST, 0), Tell.by(2, OUT, NONE), Tell.by(0, PUT_IN, 3), Tell.by(1, OUT, NONE));
        stories("put in in 3, out in 4", dated(y, 3, 4, 1), true);
        stories("put in in 2, out in 4", dated(y, 2, 4, 1), false);
        NamesUnder z = walled(Tell.by(2, FIRST, NONE), Tell.by(2, OUT, NONE), Tell.by(0, MENDED, 3), Tell.by(1, OUT, NONE));
        stories("mended in 2, out in 4", dated(z, 2, 4, 1), true);
        stories("mended in 2, out in 3", dated(z, 2, 3, 1), false);
    }

    private static void mendedBehind() {
        Check.says("(c) a MENDED one is by a HAND of a REIGN behind that of what it lies on.");
        for (int gone : new int[] {OUT, HACKED}) {
            for (int a = 1; a < 6; a++) {
                for (int b = 1; b < 6; b++) {
                    NamesUnder x = walled(Tell.by(2, FIRST, 0), Tell.by(0, gone, NONE), Tell.by(1, MENDED, NONE));
                    stories("mended in " + b + " on " + gone + " in " + a, dated(x, a, b), b > a);
                    NamesUnder y = walled(Tell.by(2, FIRST, 0), Tell.by(0, gone, NONE), Tell.by(1, PUT_IN, 0));
                    stories("put in in " + b + " on " + gone + " in " + a, dated(y, a, b), b >= a);
                }
            }
            NamesUnder x = walled(Tell.by(2, FIRST, 0), Tell.by(0, gone, NONE), Tell.by(0, MENDED, NONE));
            stories("by the same hand", x, false);
        }
        NamesUnder z = walled(Tell.by(0, FIRST, 0), Tell.by(1, OUT, NONE), Tell.by(2, MENDED, 0), Tell.by(3, OUT, NONE),
                Tell.by(4, MENDED, 0));
        stories("mended twice in 2 and 3", dated(z, 0, 1, 2, 2, 3), true);
        stories("mended twice in 2 and 2", dated(z, 0, 1, 2, 2, 2), false);
        Check.same("within six reigns", dated(z, NONE, NONE, NONE, NONE, NONE).story(0, 4), 3);
    }

    interface Wall {
        NamesUnder tell();
    }

    interface Lets {
        boolean lets(int[] reigns);
    }

    /** Every STORY of three HANDS, told by what their REIGNS have to be, one behind the other. */
    private static void everyStory(String what, Wall wall, int[] hands, Lets lets) {
        int[] r = new int[6];
        int k = 0;
        int[] odds = new int[18];
        for (int code = 0; code < 216; code++) {
            r[hands[0]] = code / 36;
            r[hands[1]] = code / 6 % 6;
            r[hands[2]] = code % 6;
            if (lets.lets(r)) {
                NamesUnder x = wall.tell();
                for (int i = 0; i < 3; i++) {
                    Check.same(what + ", story " + k + ", hand " + hands[i], x.story(k, hands[i]), r[hands[i]]);
                    odds[i * 6 + r[hands[i]]]++;
                }
                k++;
            }
        }
        NamesUnder x = wall.tell();
        Check.same(what + ", how many", x.stories(0), k);
        Check.same(what + ", none behind the last", x.story(k, hands[0]), NONE);
        for (int i = 0; i < 18; i++) {
            Check.same(what + ", odds " + i, x.odds(hands[i / 6], i % 6), odds[i]);
        }
    }

    private static void allStories() {
        Check.says("STORIES: for each HAND that has CUTS a REIGN (DATED ones have theirs), so that at each PLACE");
        everyStory("mended by a later hand", () -> {
            NamesUnder x = walled(Tell.by(0, FIRST, 0), Tell.by(0, OUT, NONE), Tell.by(1, MENDED, NONE));
            Tell.wall(x, 1, SPACE, Tell.by(2, FIRST, 0));
            return x;
        }, new int[] {0, 1, 2}, r -> r[0] >= 1 && r[1] > r[0]);
        everyStory("mended by an earlier hand", () -> walled(Tell.by(5, FIRST, 0), Tell.by(1, OUT, NONE), Tell.by(0, MENDED, NONE)),
                new int[] {0, 1, 5}, r -> r[1] >= 1 && r[1] >= r[5] && r[0] > r[1]);
        everyStory("a hand over itself", () -> {
            NamesUnder x = walled(Tell.by(3, FIRST, 1), Tell.by(3, OUT, NONE), Tell.by(3, PUT_IN, 2), Tell.by(2, HACKED, NONE));
            Tell.wall(x, 1, SPACE, Tell.by(4, FIRST, 3), Tell.by(4, HACKED, NONE));
            return x;
        }, new int[] {2, 3, 4}, r -> r[3] >= 2 && r[2] >= r[3] && r[2] >= 3 && r[4] >= 4);
        everyStory("two that have to be the same", () -> {
            NamesUnder x = walled(Tell.by(5, FIRST, 1), Tell.by(3, OUT, NONE));
            Tell.wall(x, 1, SPACE, Tell.by(3, FIRST, 0), Tell.by(5, HACKED, NONE));
            Tell.wall(x, 2, SPACE, Tell.by(0, FIRST, 4));
            return x;
        }, new int[] {0, 3, 5}, r -> r[3] == r[5] && r[3] >= 2 && r[0] >= 4);
        everyStory("mended twice", () -> walled(Tell.by(4, FIRST, 0), Tell.by(4, OUT, NONE), Tell.by(0, MENDED, NONE),
                Tell.by(0, OUT, NONE), Tell.by(3, MENDED, NONE)),
                new int[] {0, 3, 4}, r -> r[4] >= 1 && r[0] > r[4] && r[3] > r[0]);
        everyStory("mended by the last hand", () -> {
            NamesUnder x = walled(Tell.by(1, FIRST, 0), Tell.by(1, OUT, NONE), Tell.by(5, MENDED, NONE));
            Tell.wall(x, 1, SPACE, Tell.by(0, FIRST, 0));
            return x;
        }, new int[] {0, 1, 5}, r -> r[1] >= 1 && r[5] > r[1]);
        everyStory("the last hand between the others", () -> {
            NamesUnder x = walled(Tell.by(0, FIRST, 0), Tell.by(0, OUT, NONE), Tell.by(5, MENDED, NONE));
            Tell.wall(x, 1, SPACE, Tell.by(5, FIRST, 0), Tell.by(5, OUT, NONE), Tell.by(1, MENDED, NONE));
            return x;
        }, new int[] {0, 1, 5}, r -> r[0] >= 1 && r[5] > r[0] && r[1] > r[5]);
        everyStory("one in the middle is dated", () -> {
            NamesUnder x = walled(Tell.by(2, FIRST, 0), Tell.by(1, OUT, NONE), Tell.by(0, PUT_IN, NONE));
            x.dated(1, 3);
            return x;
        }, new int[] {0, 1, 2}, r -> r[1] == 3 && r[2] <= 3 && r[0] >= 3);
    }

    private static void toldAnew() {
        Check.says("Of the STORIES, what 0: how many, 1: HANDS that are SURE, as bits, 2: HANDS that have CUTS.");
        Check.same("hands asked first", walled(Tell.by(5, FIRST, 0), Tell.by(2, OUT, NONE)).stories(2), 36);
        for (int hand = 0; hand < 6; hand++) {
            NamesUnder x = walled(Tell.by(hand, FIRST, 0));
            Check.same("one hand", x.stories(2), 1 << hand);
            Check.same("one each", x.odds(hand, 0), 1);
            Tell.wall(x, 1, SPACE, Tell.by((hand + 1) % 6, FIRST, 0));
            Check.same("six each", x.odds(hand, 0), 6);
            x.clean(1);
            Check.same("one each again", x.odds(hand, 0), 1);
            Tell.pile(x, 0, Tell.by(hand, OUT, NONE), Tell.by(hand, MENDED, NONE));
            Check.same("mended by the same hand", x.stories(0), 0);
            x.clean(0);
            Check.same("without that", x.stories(0), 5);
            Check.same("not in 0", x.odds(hand, 0), 0);
            x.clean(0);
            Check.same("in 0 again", x.odds(hand, 0), 1);
            x.place(0, SPACE, 0, 0, 0);
            Check.same("no hand", x.stories(2), 0);
        }
    }

    private static void inOrder() {
        Check.says("STORIES are in order by the REIGN of the first HAND that has CUTS, then of the next one, and so on.");
        NamesUnder x = named();
        int[] hands = {1, 3, 4};
        for (int hand : hands) {
            Tell.wall(x, hand, SPACE, Tell.by(hand, FIRST, hand));
        }
        int k = 0;
        for (int a = 1; a < 6; a++) {
            for (int b = 3; b < 6; b++) {
                for (int c = 4; c < 6; c++) {
                    Check.same("story " + k, x.story(k, 1) * 100 + x.story(k, 3) * 10 + x.story(k, 4), a * 100 + b * 10 + c);
                    k++;
                }
            }
        }
        Check.same("how many", x.stories(0), k);
        for (int i = k - 1; i >= 0; i -= 7) {
            Check.same("from behind " + i, x.story(i, 4), 4 + i % 2);
        }
    }

    private static void kThStory() {
        Check.says("The REIGN of a HAND in the k-th STORY; NONE: none such.");
        NamesUnder x = walled(Tell.by(0, FIRST, 2), Tell.by(5, OUT, NONE));
        int all = x.stories(0);
        Check.same("2 to 5, then 3 to 5", all, 9);
        Check.range("k", 0, all - 1, v -> x.story(v, 0) != NONE);
        Check.range("hand", 5, 5, v -> v != 0 && x.story(0, v) != NONE);
        Check.same("hand 0", x.story(0, 0), 2);
        Check.same("the last one", x.story(all - 1, 5), 5);
        NamesUnder y = new NamesUnder();
        Check.same("one story without hands", y.stories(0), 1);
        for (int hand = 0; hand < 6; hand++) {
            Check.same("no reign of " + hand, y.story(0, hand), NONE);
        }
        NamesUnder z = walled(Tell.by(0, FIRST, WIDE));
        Check.same("no story", z.story(0, 0), NONE);
    }

    private static void whats() {
        Check.says("Of the STORIES, what 0: how many, 1: HANDS that are SURE, as bits, 2: HANDS that have CUTS. NONE for another what.");
        NamesUnder x = walled(Tell.by(5, FIRST, 5));
        Check.same("0", x.stories(0), 1);
        Check.same("1", x.stories(1), 32);
        Check.same("2", x.stories(2), 32);
        Check.range("what", 0, 2, v -> x.stories(v) != NONE);
        NamesUnder y = new NamesUnder();
        Check.range("what of a new one", 0, 2, v -> y.stories(v) != NONE);
        NamesUnder z = walled(Tell.by(5, FIRST, WIDE), Tell.by(0, OUT, NONE));
        Check.same("no story", z.stories(0), 0);
        Check.same("hands that have cuts all the same", z.stories(2), 33);
    }

    private static void sure() {
        Check.says("SURE is a REIGN of a HAND that it has in all STORIES.");
        for (int name = 0; name < 6; name++) {
            NamesUnder x = walled(Tell.by(0, FIRST, name));
            Check.same("of " + (6 - name) + " reigns", x.stories(1), name == 5 ? 1 : 0);
        }
        for (int reign = 0; reign < 6; reign++) {
            NamesUnder y = twoHands(reign, NONE);
            Check.same("dated " + reign, y.stories(1), 1);
        }
        NamesUnder z = walled(Tell.by(0, FIRST, 0), Tell.by(1, OUT, NONE));
        z.dated(1, 1);
        Check.same("in 0 or 1", z.stories(1), 2);
        NamesUnder x = walled(Tell.by(0, FIRST, 4), Tell.by(5, OUT, NONE));
        Check.same("out in 5 alone", x.stories(1), 32);
        Check.same("two stories", x.stories(0), 2);
        x.dated(0, 4);
        Check.same("both", x.stories(1), 33);
        x.dated(5, 5);
        Check.same("both dated", x.stories(1), 33);
        x.dated(5, 4);
        Check.same("no story, none is sure", x.stories(0) * 100 + x.stories(1), 0);
        x.dated(3, 3);
        x.dated(5, NONE);
        Check.same("not a hand without cuts", x.stories(1), 33);
    }

    private static void odds() {
        Check.says("In how many STORIES a HAND is of a REIGN; NONE: no such HAND with CUTS, REIGN.");
        NamesUnder x = walled(Tell.by(1, FIRST, 2), Tell.by(5, OUT, NONE));
        int[] of1 = {0, 0, 3, 3, 2, 1};
        int[] of5 = {0, 0, 0, 2, 3, 4};
        for (int reign = 0; reign < 6; reign++) {
            Check.same("hand 1 in " + reign, x.odds(1, reign), of1[reign]);
            Check.same("hand 5 in " + reign, x.odds(5, reign), of5[reign]);
        }
        Check.range("reign", 0, 5, v -> x.odds(5, v) != NONE);
        Check.range("hand", 5, 5, v -> v != 1 && x.odds(v, 0) != NONE);
        Check.same("a hand without cuts", x.odds(0, 0), NONE);
        x.dated(5, 1);
        for (int reign = 0; reign < 6; reign++) {
            Check.same("without a story " + reign, x.odds(5, reign), 0);
        }
        Check.same("no cuts at all", named().odds(0, 0), NONE);
    }

    private static NamesUnder twoHands(int a, int b) {
        NamesUnder x = named();
        Tell.wall(x, 0, SPACE, Tell.by(0, FIRST, 0));
        Tell.wall(x, 1, SPACE, Tell.by(5, FIRST, 0));
        x.dated(0, a);
        x.dated(5, b);
        return x;
    }

    private static void between() {
        Check.says("Two HANDS may be (as bits) 1: the first one's REIGN is ahead of, 2: the same as, 4: behind the other "
                + "one's, in some STORY.");
        for (int a = -1; a < 6; a++) {
            for (int b = -1; b < 6; b++) {
                int due = 0;
                for (int ra = 0; ra < 6; ra++) {
                    for (int rb = 0; rb < 6; rb++) {
                        boolean some = (a == NONE || a == ra) && (b == NONE || b == rb);
                        due |= !some ? 0 : ra < rb ? 1 : ra == rb ? 2 : 4;
                    }
                }
                NamesUnder x = twoHands(a, b);
                Check.same("dated " + a + " and " + b, x.between(0, 5), due);
                Check.same("the other way round", x.between(5, 0), (due & 1) * 4 + (due & 2) + (due >> 2));
                Check.same("to itself", x.between(5, 5), 2);
            }
        }
        NamesUnder x = walled(Tell.by(0, FIRST, 0), Tell.by(1, OUT, NONE), Tell.by(2, MENDED, NONE));
        Check.same("first and out", x.between(0, 1), 3);
        Check.same("out and mended", x.between(1, 2), 1);
        Check.same("mended and first", x.between(2, 0), 4);
    }

    private static void betweenOfNone() {
        Check.says("What two HANDS may be to one another; NONE: one has no CUTS.");
        NamesUnder x = twoHands(NONE, NONE);
        Check.range("first", 5, 5, v -> v != 0 && x.between(v, 0) != NONE);
        Check.range("second", 5, 5, v -> v != 0 && x.between(0, v) != NONE);
        Check.same("no cuts of both", x.between(1, 2), NONE);
        Check.same("no cuts of one, to itself", x.between(1, 1), NONE);
        Tell.wall(x, 2, SPACE, Tell.by(1, FIRST, WIDE));
        Check.same("no story", x.between(0, 5), 0);
        Check.same("no story, to itself", x.between(0, 0), 0);
        Check.same("no story and no cuts", x.between(0, 2), NONE);
    }

    /** Bits of the NAMES whose REIGNS are not behind one REIGN and ahead of another one. */
    private static int names(int notBehind, int aheadOf) {
        int bits = 0;
        for (int i = 0; i < 6; i++) {
            bits |= i <= notBehind && i < aheadOf ? 1 << i : 0;
        }
        return bits;
    }

    private static void stoodFirst() {
        Check.says("STOOD at a CUT of 0, 3, 4 may have the NAMES that FIT it and in some STORY are of a REIGN not behind its HAND's (of 0, 3)");
        for (int hand = 0; hand < 6; hand++) {
            NamesUnder x = dated(walled(Tell.by(0, FIRST, NONE)), hand);
            Check.same("first in " + hand, x.stood(0, 0), names(hand, 6));
        }
        Check.same("first in any", walled(Tell.by(0, FIRST, NONE)).stood(0, 0), names(5, 6));
        for (int hand = 1; hand < 6; hand++) {
            NamesUnder x = walled(Tell.by(1, FIRST, 0), Tell.by(1, OUT, NONE), Tell.by(0, PUT_IN, NONE));
            Check.same("put in in " + hand, dated(x, hand, 1).stood(0, 2), names(hand, 6));
        }
        for (int hand = 2; hand < 6; hand++) {
            NamesUnder x = walled(Tell.by(1, FIRST, NONE), Tell.by(1, OUT, NONE), Tell.by(0, MENDED, NONE));
            Check.same("mended in " + hand, dated(x, hand, 1).stood(0, 2), names(5, 6));
        }
        NamesUnder x = dated(walled(Tell.by(0, FIRST, 2)), 4);
        Check.same("known", x.stood(0, 0), 4);
        NamesUnder y = walled(Tell.by(0, FIRST, NONE), Tell.by(1, OUT, NONE));
        Tell.traces(y, 0, 0, ".c");
        Check.same("by its traces", y.stood(0, 0), 4);
        Tell.traces(y, 0, 0, "..");
        Check.same("by its traces", y.stood(0, 0), names(4, 6));
    }

    private static void stoodBelow() {
        Check.says("and ahead of that of the HAND of what lies right over it (if something does).");
        for (int gone : new int[] {OUT, HACKED}) {
            for (int hand = 0; hand < 6; hand++) {
                for (int over = Math.max(1, hand); over < 6; over++) {
                    NamesUnder x = dated(walled(Tell.by(0, FIRST, NONE), Tell.by(1, gone, NONE)), hand, over);
                    Check.same("first in " + hand + ", over it " + over, x.stood(0, 0), names(hand, over));
                    NamesUnder y = walled(Tell.by(2, FIRST, 0), Tell.by(2, OUT, NONE), Tell.by(0, PUT_IN, NONE),
                            Tell.by(1, gone, NONE));
                    if (hand > 0) {
                        Check.same("put in in " + hand + ", over it " + over, dated(y, hand, over, 1).stood(0, 2), names(hand, over));
                    }
                    NamesUnder z = walled(Tell.by(2, FIRST, NONE), Tell.by(2, OUT, NONE), Tell.by(0, MENDED, NONE),
                            Tell.by(1, gone, NONE));
                    if (hand > 1) {
                        Check.same("mended in " + hand + ", over it " + over, dated(z, hand, over, 1).stood(0, 2), names(5, over));
                    }
                }
            }
        }
        NamesUnder x = walled(Tell.by(0, FIRST, NONE), Tell.by(1, OUT, NONE), Tell.by(2, PUT_IN, 0));
        Check.same("of what lies right over it, not of the topmost", dated(x, 0, 3, 5).stood(0, 0), names(0, 3));
        Check.same("in some story", dated(x, NONE, NONE, 4).stood(0, 0), names(4, 4));
    }

    private static void stoodOfNone() {
        Check.says("NAMES that may have STOOD, as bits; NONE: no such CUT of 0, 3, 4, no STORY.");
        NamesUnder x = walled(Tell.by(0, FIRST, 0), Tell.by(1, OUT, NONE), Tell.by(2, PUT_IN, 0), Tell.by(3, HACKED, NONE));
        int[] due = {1, NONE, 1, NONE, NONE};
        for (int layer = 0; layer < 5; layer++) {
            Check.same("layer " + layer, x.stood(0, layer), due[layer]);
        }
        NamesUnder y = walled(Tell.by(0, FIRST, 0));
        Check.range("layer", 0, 0, v -> y.stood(0, v) != NONE);
        Check.range("place", 0, 0, v -> y.stood(v, 0) != NONE);
        Tell.wall(y, 11, SPACE, Tell.by(0, FIRST, WIDE));
        Check.same("no story", y.stood(0, 0), NONE);
        y.clean(11);
        Check.same("a story again", y.stood(0, 0), 1);
        for (int hand = 0; hand < 6; hand++) {
            int other = (hand + 1) % 6;
            NamesUnder z = walled(Tell.by(hand, FIRST, NONE), Tell.by(other, OUT, NONE));
            Check.same("all but the last", z.stood(0, 0), names(4, 6));
            Check.same("asking changes nothing", z.between(hand, other), 3);
            Check.same("nor how many there are", z.stories(0), 20);
        }
        Check.same("no cut", y.stood(11, 0), NONE);
    }

    private static void dateNext() {
        Check.says("DATE NEXT: the HAND not DATED that has CUTS for which the greatest number of STORIES that give it one and "
                + "the same REIGN is the least; of equal ones the first.");
        NamesUnder x = named();
        for (int hand = 1; hand < 6; hand++) {
            Tell.wall(x, hand, SPACE, Tell.by(hand, FIRST, 5 - hand));
        }
        // HAND h has REIGNS 5 - h to 5: 2 * 3 * 4 * 5 * 6 STORIES, of each REIGN as many.
        Check.same("how many", x.stories(0), 720);
        Check.same("the one of six reigns", x.next(0) * 1000 + x.next(1), 5120);
        x.dated(5, 0);
        Check.same("then of five", x.next(0) * 1000 + x.next(1), 4024);
        x.dated(4, 5);
        Check.same("then of four", x.next(0) * 1000 + x.next(1), 3006);
        x.dated(3, 5);
        Check.same("then of three", x.next(0) * 1000 + x.next(1), 2002);
        x.dated(2, 5);
        Check.same("then of two", x.next(0) * 1000 + x.next(1), 1001);
        x.dated(1, 5);
        Check.same("all are dated", x.next(0), NONE);
        x.dated(1, NONE);
        x.dated(5, NONE);
        Tell.wall(x, 0, SPACE, Tell.by(0, FIRST, 0));
        Check.same("0 and 5 of six reigns, the first", x.next(0), 0);
        x.dated(0, 0);
        Check.same("not a dated one", x.next(0), 5);
        NamesUnder y = walled(Tell.by(2, FIRST, 5));
        Check.same("sure, but not dated", y.next(0) * 10 + y.next(1), 21);
        // HAND 1 is most often in 0 or 1 (5 of 20), HAND 0 in 5 (6 of 20).
        NamesUnder z = walled(Tell.by(1, FIRST, 0), Tell.by(0, OUT, NONE));
        Check.same("by its most", z.next(0) * 10 + z.next(1), 15);
        Tell.name(z, 0, "zz", 1, false);
        Tell.wall(z, 0, SPACE, Tell.by(0, FIRST, 0), Tell.by(1, OUT, NONE));
        // HAND 0 in 1 .. 5: 4, 4, 3, 2, 1; HAND 1 in 2 .. 5: 2, 3, 4, 5.
        Check.same("by the most of another reign", z.next(0) * 10 + z.next(1), 4);
    }

    private static void nextOfNone() {
        Check.says("DATE NEXT, what 0: the HAND, 1: the number; NONE: none, no STORY, another what.");
        NamesUnder x = walled(Tell.by(0, FIRST, 0));
        Check.range("what", 0, 1, v -> x.next(v) != NONE);
        Check.same("hand 0", x.next(0), 0);
        Check.same("in one story each", x.next(1), 1);
        x.dated(0, 0);
        Check.same("none", x.next(0), NONE);
        Check.same("none", x.next(1), NONE);
        Tell.wall(x, 1, SPACE, Tell.by(1, FIRST, WIDE));
        Check.same("no story", x.next(0), NONE);
        Check.same("no story", x.next(1), NONE);
        Check.same("no hand has cuts", named().next(0), NONE);
        Check.same("no hand has cuts", named().next(1), NONE);
    }

    private static void doubtOfOne() {
        Check.says("DOUBT, if there is no STORY: the fewest CUTS (1 or 2) each the topmost of its PLACE, without which there is one");
        for (int place = 0; place < 12; place++) {
            NamesUnder x = named();
            for (int i = 0; i < 12; i++) {
                Tell.wall(x, i, SPACE, Tell.by(i % 6, FIRST, i == place ? WIDE : 0));
            }
            Check.same("one at " + place, x.doubt(), 1 << place);
            Check.same("nothing is taken away", x.count(2), 12);
            x.clean(place);
            Check.same("there is a story", x.doubt(), NONE);
        }
        NamesUnder x = walled(Tell.by(0, FIRST, WIDE), Tell.by(1, OUT, NONE));
        Check.same("not the topmost", x.doubt(), NONE);
        x.clean(0);
        Check.same("the topmost", x.doubt(), 1);
        NamesUnder y = walled(Tell.by(0, FIRST, 0), Tell.by(1, OUT, NONE), Tell.by(1, PUT_IN, WIDE));
        Check.same("the third of three", y.doubt(), 1);
        y.cut(0, 1, HACKED, NONE);
        Check.same("two of one place are not each the topmost", y.doubt(), NONE);
    }

    private static void doubtOfTwo() {
        Check.says("of as many the first by PLACES.");
        for (int a = 0; a < 12; a++) {
            for (int b = a + 1; b < 12; b++) {
                NamesUnder x = named();
                for (int i = 0; i < 12; i++) {
                    Tell.wall(x, i, SPACE, Tell.by(i % 6, FIRST, i == a || i == b ? WIDE : 0));
                }
                Check.same("two at " + a + " and " + b, x.doubt(), 1 << a | 1 << b);
            }
        }
        NamesUnder x = named();
        for (int place : new int[] {0, 5, 11}) {
            Tell.wall(x, place, SPACE, Tell.by(0, FIRST, WIDE));
        }
        Check.same("three are too many", x.doubt(), NONE);
        x.clean(5);
        Check.same("two", x.doubt(), 1 | 1 << 11);
    }

    /** HAND 0 has to be ahead of HAND 1 by the first PLACES and behind it by the others. */
    private static NamesUnder torn(int[] ahead, int[] behind) {
        NamesUnder x = named();
        for (int place : ahead) {
            Tell.wall(x, place, SPACE, Tell.by(2, FIRST, 0), Tell.by(0, OUT, NONE), Tell.by(1, MENDED, NONE));
        }
        for (int place : behind) {
            Tell.wall(x, place, SPACE, Tell.by(2, FIRST, 0), Tell.by(1, OUT, NONE), Tell.by(0, PUT_IN, 0));
        }
        return x;
    }

    private static void doubtFewest() {
        Check.says("of as many the first by PLACES.");
        Check.same("either one, the first", torn(new int[] {7}, new int[] {3}).doubt(), 1 << 3);
        Check.same("either one, the first", torn(new int[] {3}, new int[] {7}).doubt(), 1 << 3);
        Check.same("one is fewer than two", torn(new int[] {1, 2}, new int[] {9}).doubt(), 1 << 9);
        Check.same("one is fewer than two", torn(new int[] {9}, new int[] {1, 2}).doubt(), 1 << 9);
        Check.same("two are fewer than three", torn(new int[] {0, 1, 2}, new int[] {8, 9}).doubt(), 1 << 8 | 1 << 9);
        Check.same("0 and 5 ahead of 1 and 2", torn(new int[] {0, 5}, new int[] {1, 2}).doubt(), 1 | 1 << 5);
        Check.same("0 and 5 ahead of 1 and 2", torn(new int[] {1, 2}, new int[] {0, 5}).doubt(), 1 | 1 << 5);
        Check.same("3 and 3", torn(new int[] {0, 1, 2}, new int[] {3, 4, 5}).doubt(), NONE);
    }

    private static void doubtOfNone() {
        Check.says("DOUBT as bits of PLACES; NONE: there is a STORY, none of 2.");
        Check.same("no cuts", named().doubt(), NONE);
        Check.same("a story", walled(Tell.by(0, FIRST, 0)).doubt(), NONE);
        NamesUnder x = torn(new int[] {0, 1, 2}, new int[] {3, 4, 5});
        Check.same("none of two", x.doubt(), NONE);
        Check.same("and no story", x.stories(0), 0);
        Check.same("hands as before", x.stories(2), 7);
        for (int place = 0; place < 12; place++) {
            NamesUnder y = named();
            Tell.wall(y, place, SPACE, Tell.by(0, FIRST, NONE), Tell.by(1, OUT, NONE));
            Tell.traces(y, place, 0, "zz");
            Check.same("traces of no name", y.stories(0), 0);
            Check.same("they go with the out", y.doubt(), 1 << place);
            Check.same("but they are there", y.fits(place, 0), 0);
            Tell.wall(y, place, SPACE, Tell.by(0, FIRST, NONE), Tell.by(1, OUT, NONE), Tell.by(2, PUT_IN, NONE), Tell.by(3, OUT, NONE));
            Tell.traces(y, place, 2, "zz");
            Check.same("traces of no name", y.stories(0), 0);
            Check.same("they go with the upper out", y.doubt(), 1 << place);
            Tell.traces(y, place, 2, "aa");
            Tell.traces(y, place, 0, "zz");
            Check.same("traces of no name", y.stories(0), 0);
            Check.same("they don't go with the upper out", y.doubt(), NONE);
        }
        NamesUnder z = dated(walled(Tell.by(0, FIRST, 3)), 2);
        Check.same("dated too far ahead", z.doubt(), 1);
    }

    public static void main(String[] args) {
        datedRanges();
        handsWithCuts();
        notAhead();
        firstAndPutIn();
        mendedFits();
        goneNames();
        goneNotBehindBelow();
        mendedBehind();
        allStories();
        toldAnew();
        inOrder();
        kThStory();
        whats();
        sure();
        odds();
        between();
        betweenOfNone();
        stoodFirst();
        stoodBelow();
        stoodOfNone();
        dateNext();
        nextOfNone();
        doubtOfOne();
        doubtOfTwo();
        doubtFewest();
        doubtOfNone();
        Check.end();
    }
}
