/** Sentences about what ORDERS mean and what a RUN does that tell a boundary: promises 21 to 26. */
public final class EdgesRunsTest {
    private static final int NONE = NamesUnder.NONE;
    private static final int FIRST = Tell.FIRST;
    private static final int OUT = Tell.OUT;
    private static final int HACKED = Tell.HACKED;
    private static final int PUT_IN = Tell.PUT_IN;
    private static final int MENDED = Tell.MENDED;
    /** ALIKE are hati, hato, hat (0, 1, 3); the rest is not. */
    private static final String[] WORDS = {"hati", "hato", "tuti", "hat", "mmmmmmmm", "i", "ww", "x"};

    private static NamesUnder named() {
        return Tell.named(WORDS);
    }

    /** One PLACE with a FIRST CUT. */
    private static NamesUnder walled(int place, int space, int height, int sort, int name) {
        NamesUnder x = named();
        x.place(place, space, height, sort, 0);
        Tell.pile(x, place, Tell.by(5, FIRST, name));
        return x;
    }

    private static void order(NamesUnder x, int reign, String text) {
        Check.same("order " + text, Tell.order(x, reign, text), 0);
    }

    /** Whether E is so where hati stands at PLACE 0. */
    private static boolean isSo(String e) {
        NamesUnder x = walled(0, 6, 0, 0, 0);
        order(x, 0, "out 0 when " + e + ";");
        return x.ran(0, 0) == 2;
    }

    /** At a PLACE with hati a fact has this value. */
    private static void fact(NamesUnder x, int place, String fact, int value) {
        for (int off = -1; off <= 1; off++) {
            if (value + off >= 0) {
                order(x, 0, "out 0 when " + fact + "=" + (value + off) + ";");
                Check.same(fact + " and " + (value + off), x.ran(place, 0), off == 0 ? 2 : 1);
            }
        }
    }

    private static void placeFacts() {
        Check.says("Facts: height, space, sort, width (of the NAME that stands; 0), place (its number)");
        for (int height : new int[] {0, 1, 50, 98, 99}) {
            fact(walled(0, 6, height, 0, 0), 0, "height", height);
        }
        for (int space : new int[] {1, 2, 23, 24}) {
            fact(walled(0, space, 0, 0, 0), 0, "space", space);
        }
        for (int sort = 0; sort < 4; sort++) {
            fact(walled(0, 6, 0, sort, 0), 0, "sort", sort);
        }
        for (int place = 0; place < 12; place++) {
            fact(walled(place, 6, 0, 0, 0), place, "place", place);
        }
        NamesUnder x = named();
        for (int place = 0; place < 12; place++) {
            Tell.wall(x, place, 6, Tell.by(0, FIRST, 0));
        }
        order(x, 0, "out 0 when place=7;");
        for (int place = 0; place < 12; place++) {
            Check.same("each by its own number " + place, x.ran(place, 0), place == 7 ? 2 : 1);
        }
    }

    private static void standingFacts() {
        Check.says("cuts (how many lie there), stands (the number of the NAME that stands; 99 none)");
        int[] widths = {6, 7, 5, 5, 24, 1, 6, 2};
        for (int name = 0; name < 8; name++) {
            NamesUnder x = walled(0, 6, 0, 0, name);
            order(x, 0, "out " + name + " when stands=" + name + " and width=" + widths[name] + " and cuts=1;");
            Check.same("name " + name, x.ran(0, 0), 2);
            order(x, 1, "put 7 when stands=99 and width=0 and cuts=2;");
            Check.same("none stands", x.ran(0, 1), 3);
            order(x, 2, "hack 7 when stands=7 and width=2 and cuts=3;");
            Check.same("put in", x.ran(0, 2), 4);
            order(x, 3, "mend 7 when stands=99 and width=0 and cuts=4;");
            Check.same("hacked", x.ran(0, 3), 5);
            order(x, 4, "out 7 when stands=7 and width=2 and cuts=5;");
            Check.same("mended", x.ran(0, 4), 6);
        }
        NamesUnder x = walled(0, 6, 0, 0, 0);
        order(x, 0, "out 0 when 1;put 2 when not stands=99;");
        Check.same("99", x.ran(0, 0), 2);
        order(x, 0, "out 0 when 1;put 2 when width;");
        Check.same("0", x.ran(0, 0), 2);
    }

    private static void truth() {
        Check.says("Of not, and, or, < and = comes 1 or 0; what is not 0 is so; ints wrap.");
        String[] so = {"1", "2", "9999", "0-1", "0-9999", "not 0=1", "not 1=0", "not 2=0", "not(0-1)=0", "(2 and 4)=1", "(0 and 4)=0",
            "(4 and 0)=0", "(0 or 4)=1", "(4 or 0)=1", "(0 or 0)=0", "(4 or 2)=1", "(1<2)=1", "(2<2)=0", "(3<2)=0", "(0-1<0)=1",
            "(2=2)=1", "(2=3)=0", "not not 7=1", "(1<2)+(1<2)=2", "(0-1 and 1)=1", "((0-5) or 0)=1"};
        for (String e : so) {
            Check.so(e, isSo(e));
        }
        String[] not = {"0", "0000", "1-1", "not 1", "not 9999", "2=3", "2<2", "1 and 0", "0 or 0", "0*9999"};
        for (String e : not) {
            Check.not(e, isSo(e));
        }
    }

    private static void intsWrap() {
        Check.says("ints wrap");
        String half = "8192*8192*16";
        String whole = "8192*8192*32";
        Check.not("2^30", isSo(half + "<0"));
        Check.not("2^31 less 1", isSo(half + "-1+" + half + "<0"));
        Check.so("2^31 by *", isSo(whole + "<0"));
        Check.so("2^31 by +", isSo(half + "+" + half + "<0"));
        Check.so("the least one", isSo(whole + "=0-" + whole));
        Check.so("the least one less 1", isSo("0<" + whole + "-1"));
        Check.so("the greatest one and 1", isSo(whole + "-1+1<0"));
        Check.so("the least one less the greatest", isSo(whole + "-(" + whole + "-1)=1"));
        Check.not("2^32", isSo("8192*8192*64"));
        Check.so("2^32 and 1", isSo("8192*8192*64+1=1"));
        Check.so("9999 to the fourth", isSo("9999*9999*9999*9999=" + split(9999 * 9999 * 9999 * 9999)));
        Check.so("9999 to the third", isSo("9999*9999*9999=" + split(9999 * 9999 * 9999)));
    }

    /** An int as a sum of NUMBERS of four digits. */
    private static String split(int value) {
        int high = value / 9999 / 9999;
        int rest = value - high * 9999 * 9999;
        String sum = Math.abs(high) + "*9999*9999+" + Math.abs(rest / 9999) + "*9999+" + Math.abs(rest % 9999);
        return value < 0 ? "0-(" + sum + ")" : sum;
    }

    private static void fromTheLeft() {
        Check.says("E: TEST { and TEST or or TEST }, from the left");
        Check.not("1 or 1 and 0", isSo("1 or 1 and 0"));
        Check.so("1 or (1 and 0)", isSo("1 or (1 and 0)"));
        Check.so("0 and 0 or 1", isSo("0 and 0 or 1"));
        Check.not("0 and (0 or 1)", isSo("0 and (0 or 1)"));
        Check.so("9-4-3=2", isSo("9-4-3=2"));
        Check.so("9-(4-3)=8", isSo("9-(4-3)=8"));
        Check.so("9-4+3=8", isSo("9-4+3=8"));
        Check.so("2+3*4=14", isSo("2+3*4=14"));
        Check.so("2*3+4=10", isSo("2*3+4=10"));
        Check.so("1+1<3 and 5=2+3", isSo("1+1<3 and 5=2+3"));
        Check.so("not binds what is right behind it", isSo("not 0+1=2"));
        Check.so("not of more", isSo("not(0+1)=0"));
        Check.not("or from the left, then and", isSo("1 or 0 and 0"));
        Check.so("and from the left, then or", isSo("1 and 0 or 1"));
        Check.not("one test alone", isSo("(1<2)=2"));
    }

    private static void begins() {
        Check.says("A RUN begins with each PLACE's FIRST CUT if its NAME is known (by no HAND then; a PLACE without such a one has none "
                + "and nothing is done there).");
        NamesUnder x = walled(3, 6, 0, 0, 0);
        for (int reign = 0; reign < 6; reign++) {
            Check.same("one behind " + reign, x.ran(3, reign), 1);
        }
        Check.same("no hand", x.made(3, 0, 0), NONE);
        Check.same("first", x.made(3, 0, 1), FIRST);
        Check.same("hati", x.made(3, 0, 2), 0);
        Tell.pile(x, 3, Tell.by(0, OUT, NONE), Tell.by(0, PUT_IN, 1));
        Check.same("not with the cuts over it", x.ran(3, 5), 1);
        NamesUnder y = walled(3, 6, 0, 0, NONE);
        order(y, 0, "out 0 when 1;put 0 when 1;mend 0 when 1;hack 0 when 1;");
        y.works(0, 99, false);
        Check.same("not known", y.ran(3, 5), 0);
        Check.same("none", y.made(3, 0, 1), NONE);
        Check.same("cuts together", y.agrees(2), 0);
        y.clean(3);
        Check.same("no cut", y.ran(3, 5), 0);
        Tell.pile(y, 3, Tell.by(0, FIRST, 0));
        Check.same("known", y.ran(3, 5), 4);
    }

    private static void reignsInOrder() {
        Check.says("REIGN 0, then 1, and so on");
        for (int reign = 0; reign < 6; reign++) {
            NamesUnder x = walled(0, 6, 0, 0, 0);
            order(x, reign, "out 0 when 1;");
            for (int behind = 0; behind < 6; behind++) {
                Check.same("out in " + reign + " behind " + behind, x.ran(0, behind), behind < reign ? 1 : 2);
            }
            Check.same("its hand", x.made(0, 1, 0), reign);
        }
        NamesUnder x = walled(0, 6, 0, 0, 0);
        order(x, 5, "out 0 when 1;");
        order(x, 4, "put 2 when 1;");
        Check.same("put ahead of out", x.ran(0, 5), 2);
        order(x, 4, "out 0 when 1;");
        order(x, 5, "put 2 when 1;");
        Check.same("put behind out", x.ran(0, 5), 3);
        order(x, 4, "put 2 when 1;out 0 when 1;");
        order(x, 5, "");
        Check.same("lines in order", x.ran(0, 5), 2);
        order(x, 4, "out 0 when 1;put 2 when 1;out 2 when 1;");
        Check.same("each on what the last one left", x.ran(0, 5), 4);
    }

    private static void doneIfItCan() {
        Check.says("at each PLACE, by numbers, its LINES in order, each done if it can and E is not 0");
        for (int value : new int[] {0, 1, 2, 9999}) {
            NamesUnder x = walled(0, 6, 0, 0, 0);
            order(x, 0, "out 0 when " + value + ";");
            Check.same("E is " + value, x.ran(0, 0), value == 0 ? 1 : 2);
            order(x, 0, "out 0 when 0-" + value + ";");
            Check.same("E is less " + value, x.ran(0, 0), value == 0 ? 1 : 2);
            order(x, 0, "out 1 when " + value + ";");
            Check.same("it can't", x.ran(0, 0), 1);
        }
        NamesUnder x = walled(0, 6, 0, 0, 0);
        order(x, 0, "put 1 when 1;out 0 when 0;out 1 when 1;hack 0 when 1;put 4 when 1;mend 1 when 1;put 2 when 1;");
        Check.same("the fourth and the seventh", x.ran(0, 0), 3);
        Check.same("hacked", x.made(0, 1, 1), HACKED);
        Check.same("tuti", x.made(0, 2, 2), 2);
        for (int lines = 1; lines <= 12; lines++) {
            order(x, 0, "out 1 when 1;".repeat(lines - 1) + "out 0 when 1;");
            Check.same("the last of " + lines, x.ran(0, 0), 2);
        }
        order(x, 0, "out 1 when 1;".repeat(11));
        Check.same("one line less", x.ran(0, 0), 1);
    }

    private static void itsHand() {
        Check.says("The CUT has as its HAND the REIGN's number.");
        NamesUnder x = walled(0, 6, 0, 0, 0);
        String[] texts = {"out 0 when 1;", "put 2 when 1;", "hack 2 when 1;", "mend 2 when 1;", "hack 2 when 1;", "put 0 when 1;"};
        int[] doings = {FIRST, OUT, PUT_IN, HACKED, MENDED, HACKED};
        int[] names = {0, NONE, 2, NONE, 2, NONE};
        for (int reign = 0; reign < 6; reign++) {
            order(x, reign, texts[reign]);
        }
        for (int layer = 0; layer < 6; layer++) {
            Check.same("hand of " + layer, x.made(0, layer, 0), layer - 1);
            Check.same("doing of " + layer, x.made(0, layer, 1), doings[layer]);
            Check.same("name of " + layer, x.made(0, layer, 2), names[layer]);
        }
        Check.same("none such", x.made(0, 6, 0), NONE);
    }

    private static void outOfNames() {
        Check.says("out, hack if the NAME that stands (of the topmost CUT, that is of 0, 3, 4) is N");
        for (String deed : new String[] {"out", "hack"}) {
            for (int stands = 0; stands < 8; stands++) {
                for (int name = 0; name < 8; name++) {
                    NamesUnder x = walled(0, 6, 0, 0, stands);
                    order(x, 0, deed + " " + name + " when 1;");
                    Check.same(deed + " " + name + " of " + stands, x.ran(0, 0), stands == name ? 2 : 1);
                }
            }
            NamesUnder x = walled(0, 6, 0, 0, 0);
            order(x, 0, "out 0 when 1;" + deed + " 0 when 1;");
            Check.same("on out", x.ran(0, 0), 2);
            order(x, 0, "hack 0 when 1;" + deed + " 0 when 1;");
            Check.same("on hacked", x.ran(0, 0), 2);
            order(x, 0, "out 0 when 1;put 2 when 1;" + deed + " 0 when 1;");
            Check.same("not of what stood below", x.ran(0, 0), 3);
            order(x, 0, "out 0 when 1;put 2 when 1;" + deed + " 2 when 1;");
            Check.same("of what was put in", x.ran(0, 0), 4);
            order(x, 0, "out 0 when 1;mend 0 when 1;" + deed + " 0 when 1;");
            Check.same("of what was mended", x.ran(0, 0), 4);
        }
    }

    private static void cantRead() {
        Check.says("or, by those who can't read (told of a REIGN; at first all can), ALIKE to N");
        for (String deed : new String[] {"out", "hack"}) {
            for (int stands = 0; stands < 8; stands++) {
                for (int name = 0; name < 8; name++) {
                    NamesUnder x = walled(0, 6, 0, 0, stands);
                    order(x, 0, deed + " " + name + " when 1;");
                    x.works(0, 99, false);
                    boolean done = stands == name || x.alike(stands, name) == 1;
                    Check.same(deed + " " + name + " of " + stands, x.ran(0, 0), done ? 2 : 1);
                    Check.same("slips", x.agrees(1), done && stands != name ? 1 : 0);
                }
            }
        }
        for (int reign = 0; reign < 6; reign++) {
            NamesUnder x = walled(0, 6, 0, 0, 1);
            order(x, reign, "out 0 when 1;");
            Check.same("at first all can", x.ran(0, 5), 1);
            for (int other = 0; other < 6; other++) {
                x.works(other, 99, other == reign);
            }
            Check.same("the others can't", x.ran(0, 5), 1);
            x.works(reign, 99, false);
            Check.same("these can't", x.ran(0, 5), 2);
            x.works(reign, 99, true);
            Check.same("these can again", x.ran(0, 5), 1);
        }
        NamesUnder x = walled(0, 6, 0, 0, 0);
        x.works(0, 99, false);
        order(x, 0, "out 0 when 1;mend 1 when 1;");
        Check.same("mend needs the very name", x.ran(0, 0), 2);
        order(x, 0, "out 0 when 1;out 1 when 1;");
        Check.same("nothing stands", x.ran(0, 0), 2);
    }

    private static void putWidths() {
        Check.says("put if the topmost CUT is OUT or HACKED and N's WIDTH is not above the SPACE and 2");
        for (int space = 1; space <= 24; space++) {
            for (int width = Math.max(1, space - 1); width <= Math.min(24, space + 4); width++) {
                for (String deed : new String[] {"out", "hack"}) {
                    NamesUnder x = Tell.named("x", Tell.wide(width));
                    Tell.wall(x, 0, space, Tell.by(0, FIRST, 0));
                    order(x, 0, deed + " 0 when 1;put 1 when 1;");
                    Check.same("width " + width + " space " + space, x.ran(0, 0), width <= space + 2 ? 3 : 2);
                }
            }
        }
        NamesUnder x = walled(0, 6, 0, 0, 0);
        order(x, 0, "put 0 when 1;put 1 when 1;");
        Check.same("on first", x.ran(0, 0), 1);
        order(x, 0, "out 0 when 1;put 1 when 1;put 2 when 1;");
        Check.same("on put in", x.ran(0, 0), 3);
        order(x, 0, "out 0 when 1;mend 0 when 1;put 2 when 1;");
        Check.same("on mended", x.ran(0, 0), 3);
        order(x, 0, "out 0 when 1;put 0 when 1;");
        Check.same("the same name again", x.ran(0, 0), 3);
    }

    private static void mendLikewise() {
        Check.says("mend likewise, and N is the NAME that stood below");
        for (int stood = 0; stood < 8; stood++) {
            for (int name = 0; name < 8; name++) {
                NamesUnder x = walled(0, 24, 0, 0, stood);
                order(x, 0, "hack " + stood + " when 1;mend " + name + " when 1;");
                Check.same("mend " + name + " of " + stood, x.ran(0, 0), stood == name ? 3 : 2);
            }
        }
        for (int space = 1; space <= 24; space++) {
            for (int width = Math.max(1, space - 1); width <= Math.min(24, space + 4); width++) {
                NamesUnder x = Tell.named(Tell.wide(width));
                Tell.wall(x, 0, space, Tell.by(0, FIRST, 0));
                order(x, 0, "out 0 when 1;mend 0 when 1;");
                Check.same("width " + width + " space " + space, x.ran(0, 0), width <= space + 2 ? 3 : 2);
            }
        }
        NamesUnder x = walled(0, 6, 0, 0, 0);
        order(x, 0, "mend 0 when 1;");
        Check.same("on first", x.ran(0, 0), 1);
        order(x, 0, "out 0 when 1;mend 0 when 1;mend 0 when 1;");
        Check.same("on mended", x.ran(0, 0), 3);
        order(x, 0, "out 0 when 1;put 2 when 1;mend 2 when 1;mend 0 when 1;");
        Check.same("on put in", x.ran(0, 0), 3);
        order(x, 0, "out 0 when 1;put 2 when 1;hack 2 when 1;mend 0 when 1;");
        Check.same("not what stood further below", x.ran(0, 0), 4);
        order(x, 0, "out 0 when 1;put 2 when 1;hack 2 when 1;mend 2 when 1;");
        Check.same("what stood right below", x.ran(0, 0), 5);
    }

    private static void sixCuts() {
        Check.says("at most 6 CUTS lie at a PLACE");
        for (int lines = 0; lines <= 12; lines++) {
            NamesUnder x = walled(0, 6, 0, 0, 0);
            StringBuilder text = new StringBuilder();
            for (int i = 0; i < lines; i++) {
                text.append(i % 2 == 0 ? "out 0 when 1;" : i % 4 == 1 ? "put 0 when 1;" : "mend 0 when 1;");
            }
            order(x, 0, text.toString());
            int due = Math.min(6, lines + 1);
            Check.same("lines " + lines, x.ran(0, 0), due);
            Check.same("behind all", x.ran(0, 5), due);
            Check.same("together", x.agrees(2), due);
            Check.so("the topmost", x.made(0, due - 1, 1) != NONE);
            Check.same("none over it", x.made(0, due, 1), NONE);
            Check.same("what is not done is no slip", x.agrees(1), 0);
            order(x, 1, "out 0 when 1;put 0 when 1;mend 0 when 1;");
            Check.so("six in the next reign", x.ran(0, 1) <= 6);
            Check.same("six in the next reign", x.ran(0, 1), Math.min(6, due + (due % 2 == 1 ? 2 : 1)));
        }
    }

    private static void everyPlace() {
        Check.says("at each PLACE, by numbers, its LINES in order, each done if it can and E is not 0");
        NamesUnder x = named();
        for (int place = 0; place < 12; place++) {
            x.place(place, 7 + place, place, place % 4, 0);
            Tell.pile(x, place, Tell.by(0, FIRST, place % 3));
        }
        order(x, 0, "out 0 when 1;hack 1 when 1;");
        order(x, 2, "mend 0 when place<6;mend 1 when 1;put 3 when 1;");
        order(x, 4, "hack 3 when height=9 or sort=0;put 2 when space=19;");
        // hati at 0, 3, 6, 9: mended at 0 and 3, hat put in at 6 and 9, which is hacked at 9; hato is mended; tuti stays.
        int[] sizes = {3, 3, 1, 3, 3, 1, 3, 3, 1, 4, 3, 1};
        int[] doings = {4, 4, 0, 4, 4, 0, 3, 4, 0, 2, 4, 0};
        int[] names = {0, 1, 2, 0, 1, 2, 3, 1, 2, NONE, 1, 2};
        for (int place = 0; place < 12; place++) {
            Check.same("cuts at " + place, x.ran(place, 5), sizes[place]);
            Check.same("ahead of the last order at " + place, x.ran(place, 3), Math.min(3, sizes[place]));
            Check.same("doing at " + place, x.made(place, sizes[place] - 1, 1), doings[place]);
            Check.same("name at " + place, x.made(place, sizes[place] - 1, 2), names[place]);
        }
        Check.same("together", x.agrees(2), 29);
    }

    private static void ladders() {
        Check.says("a LADDER (0 to 99 for each REIGN; 99 at first) not below the HEIGHT is wanted for all.");
        for (int height : new int[] {0, 1, 2, 49, 50, 98, 99}) {
            for (int ladder = Math.max(0, height - 2); ladder <= Math.min(99, height + 2); ladder++) {
                for (String deed : new String[] {"out 0", "hack 0"}) {
                    NamesUnder x = walled(0, 6, height, 0, 0);
                    order(x, 2, deed + " when 1;");
                    x.works(2, ladder, true);
                    Check.same(deed + " height " + height + " ladder " + ladder, x.ran(0, 2), ladder >= height ? 2 : 1);
                }
                for (String deed : new String[] {"put 2", "mend 0"}) {
                    NamesUnder x = walled(0, 6, height, 0, 0);
                    order(x, 1, "out 0 when 1;");
                    order(x, 2, deed + " when 1;");
                    x.works(2, ladder, true);
                    Check.same(deed + " height " + height + " ladder " + ladder, x.ran(0, 2), ladder >= height ? 3 : 2);
                }
            }
        }
        for (int reign = 0; reign < 6; reign++) {
            NamesUnder x = walled(0, 6, 99, 0, 0);
            order(x, reign, "out 0 when 1;");
            Check.same("99 at first", x.ran(0, 5), 2);
            for (int other = 0; other < 6; other++) {
                x.works(other, other == reign ? 99 : 0, true);
            }
            Check.same("of each reign its own", x.ran(0, 5), 2);
            x.works(reign, 98, true);
            Check.same("one below", x.ran(0, 5), 1);
        }
    }

    private static void works() {
        Check.says("Of a REIGN the LADDER, and whether those who work can read: true; false: others.");
        Check.range("reign", 0, 5, v -> new NamesUnder().works(v, 0, true));
        Check.range("ladder", 0, 99, v -> new NamesUnder().works(0, v, false));
        NamesUnder x = walled(0, 6, 50, 0, 1);
        order(x, 5, "out 0 when 1;");
        x.works(5, 50, false);
        Check.same("done", x.ran(0, 5), 2);
        int[][] wrong = {{-1, 0}, {6, 0}, {5, -1}, {5, 100}};
        for (int[] w : wrong) {
            Check.not("works " + w[0] + " " + w[1], x.works(w[0], w[1], true));
            Check.same("done as before", x.ran(0, 5), 2);
        }
    }

    private static NamesUnder twelve() {
        NamesUnder x = named();
        for (int place = 0; place < 12; place++) {
            Tell.wall(x, place, 6, Tell.by(0, FIRST, 0));
        }
        return x;
    }

    private static void ranOfNone() {
        Check.says("How many CUTS lie at a PLACE behind a RUN to a REIGN (that one, too); NONE: no such PLACE told, REIGN.");
        NamesUnder x = twelve();
        Check.range("place", 0, 11, v -> x.ran(v, 0) == 1);
        Check.range("reign", 0, 5, v -> x.ran(0, v) == 1);
        Check.outside("place", 0, 11, v -> x.ran(v, 0) != NONE);
        Check.outside("reign", 0, 5, v -> x.ran(0, v) != NONE);
        NamesUnder y = named();
        Check.same("not told", y.ran(0, 0), NONE);
        y.place(0, 6, 0, 0, 0);
        Check.same("told", y.ran(0, 0), 0);
        Check.same("another one not told", y.ran(1, 0), NONE);
    }

    private static void madeOfNone() {
        Check.says("Of a CUT behind the whole RUN, what 0: HAND (NONE: FIRST), 1: DOING, 2: NAME (of 1, 2 NONE); NONE: none such.");
        NamesUnder x = twelve();
        order(x, 3, "hack 0 when 1;put 2 when place=11;");
        Check.range("place", 0, 11, v -> x.made(v, 1, 0) == 3);
        Check.outside("place", 0, 11, v -> x.made(v, 1, 0) != NONE);
        Check.range("layer", 0, 2, v -> x.made(11, v, 1) != NONE);
        Check.range("layer of two", 0, 1, v -> x.made(10, v, 1) != NONE);
        Check.range("what", 0, 2, v -> x.made(11, 2, v) != NONE);
        Check.same("name of hacked", x.made(11, 1, 2), NONE);
        Check.same("hand of first", x.made(11, 0, 0), NONE);
        NamesUnder y = named();
        Check.same("not told", y.made(0, 0, 1), NONE);
        y.place(0, 6, 0, 0, 0);
        Check.same("told without a cut", y.made(0, 0, 1), NONE);
    }

    /** At PLACE 0 the RUN makes hati, OUT, tuti; what is told there is this. */
    private static void agree(String what, boolean so, int[]... cuts) {
        NamesUnder x = named();
        order(x, 2, "out 0 when 1;put 2 when 1;");
        Tell.wall(x, 0, 6, cuts);
        Check.same(what, x.agrees(0), so ? 1 : 0);
    }

    private static void agrees() {
        Check.says("a PLACE as it was told agrees with the RUN if as many CUTS lie there, of the same DOINGS, and where a NAME is known it "
                + "is the same.");
        int[] first = Tell.by(0, FIRST, 0);
        int[] out = Tell.by(0, OUT, NONE);
        int[] put = Tell.by(0, PUT_IN, 2);
        agree("the same", true, first, out, put);
        agree("by other hands", true, Tell.by(5, FIRST, 0), Tell.by(4, OUT, NONE), Tell.by(3, PUT_IN, 2));
        agree("one less", false, first, out);
        agree("two less", false, first);
        agree("one more", false, first, out, put, out);
        agree("hacked, not out", false, first, Tell.by(0, HACKED, NONE), put);
        agree("mended, not put in", false, first, out, Tell.by(0, MENDED, NONE));
        agree("another name", false, first, out, Tell.by(0, PUT_IN, 1));
        agree("a name not known", true, first, out, Tell.by(0, PUT_IN, NONE));
        agree("the first one not known", false, Tell.by(0, FIRST, NONE), out, put);
        agree("no cuts on both sides", true);
        agree("another first one, with nothing done", true, Tell.by(0, FIRST, 7));
        agree("another first one, and told otherwise", false, Tell.by(0, FIRST, 7), out);
        NamesUnder x = named();
        order(x, 2, "out 0 when 1;put 0 when 1;out 0 when 1;mend 0 when 1;hack 0 when 1;");
        Tell.wall(x, 11, 6, first, out, Tell.by(0, PUT_IN, 0), out, Tell.by(0, MENDED, 0), Tell.by(0, HACKED, NONE));
        Check.same("six cuts", x.agrees(0), 2048);
        x.clean(11);
        Check.same("five of six", x.agrees(0), 0);
        Tell.pile(x, 11, out);
        Check.same("the sixth is out, not hacked", x.agrees(0), 0);
        x.clean(11);
        order(x, 2, "out 0 when 1;put 0 when 1;out 0 when 1;mend 0 when 1;");
        Check.same("five", x.agrees(0), 2048);
    }

    private static void agreesWhats() {
        Check.says("Of the RUN, what 0: PLACES told that agree, as bits, 1: SLIPS, 2: CUTS together; NONE for another what.");
        NamesUnder x = twelve();
        Check.range("what", 0, 2, v -> x.agrees(v) != NONE);
        Check.same("all agree", x.agrees(0), 4095);
        Check.same("no slips", x.agrees(1), 0);
        Check.same("one each", x.agrees(2), 12);
        order(x, 0, "out 0 when place<11;");
        Check.same("the last one agrees", x.agrees(0), 2048);
        Check.same("two each but one", x.agrees(2), 23);
        x.cut(0, 0, OUT, NONE);
        Check.same("the first one, too", x.agrees(0), 2049);
        order(x, 0, "out 0 when 1;put 0 when 1;".repeat(6));
        Check.same("six each", x.agrees(2), 72);
        Check.same("places not told", new NamesUnder().agrees(0), 0);
    }

    private static void slips() {
        Check.says("SLIPS of a RUN: CUTS of OUT or HACKED over a NAME that is not its LINE's.");
        NamesUnder x = named();
        for (int place = 0; place < 12; place++) {
            Tell.wall(x, place, 6, Tell.by(0, FIRST, place % 4));
        }
        x.works(0, 99, false);
        Check.same("no orders", x.agrees(1), 0);
        order(x, 0, "out 0 when 1;");
        Check.same("over hato and hat", x.agrees(1), 6);
        order(x, 0, "hack 0 when 1;");
        Check.same("hacked over hato and hat", x.agrees(1), 6);
        order(x, 0, "out 0 when place=1;");
        Check.same("one", x.agrees(1), 1);
        order(x, 0, "out 0 when place=0;");
        Check.same("its own", x.agrees(1), 0);
        order(x, 0, "out 1 when 1;");
        Check.same("over hati and hat", x.agrees(1), 6);
        order(x, 0, "out 0 when 1;put 1 when 1;out 0 when 1;put 3 when 1;hack 0 when 1;");
        Check.same("twice more at each of nine", x.agrees(1), 6 + 2 * 9);
        x.works(0, 99, true);
        Check.same("those who read make none", x.agrees(1), 0);
    }

    private static void missed() {
        Check.says("MISSED by a REIGN: PLACES at which the NAME of one of its LINES of out or hack stands behind that REIGN.");
        for (String deed : new String[] {"out", "hack"}) {
            NamesUnder x = twelve();
            order(x, 2, deed + " 0 when 0;");
            Check.same("all", x.missed(2), 4095);
            order(x, 2, deed + " 0 when place<11;");
            Check.same("the last", x.missed(2), 2048);
            order(x, 2, deed + " 0 when place;");
            Check.same("the first", x.missed(2), 1);
            order(x, 2, deed + " 0 when 1;");
            Check.same("none", x.missed(2), 0);
            order(x, 2, deed + " 0 when 1;put 0 when place=5;");
            Check.same("put in again", x.missed(2), 32);
            order(x, 2, deed + " 1 when 0;");
            Check.same("of another name", x.missed(2), 0);
            order(x, 2, deed + " 1 when 0;" + deed + " 0 when place;");
            Check.same("one of its lines", x.missed(2), 1);
        }
        for (int lines = 1; lines <= 12; lines++) {
            NamesUnder x = twelve();
            order(x, 2, "hack 1 when 0;".repeat(lines - 1) + "out 0 when 0;");
            Check.same("the last of " + lines, x.missed(2), 4095);
            order(x, 2, "hack 1 when 0;".repeat(lines - 1));
            Check.same("one line less", x.missed(2), 0);
        }
        NamesUnder x = twelve();
        order(x, 2, "put 0 when 1;mend 0 when 1;");
        Check.same("put and mend are nothing", x.missed(2), 0);
        order(x, 2, "out 0 when 0;");
        order(x, 3, "out 0 when 1;");
        Check.same("what a later reign does is nothing", x.missed(2), 4095);
        Check.same("and the later one missed none", x.missed(3), 0);
        order(x, 1, "out 0 when 1;");
        Check.same("what an earlier one did counts", x.missed(2), 0);
        order(x, 4, "put 0 when 1;");
        Check.same("what comes back later is nothing", x.missed(3), 0);
        order(x, 1, "");
        order(x, 3, "");
        x.place(0, 6, 99, 0, 0);
        Tell.pile(x, 0, Tell.by(0, FIRST, 0));
        order(x, 2, "out 0 when 1;");
        x.works(2, 98, true);
        Check.same("too high", x.missed(2), 1);
    }

    private static void missedOfNone() {
        Check.says("MISSED by a REIGN, as bits of PLACES; NONE: no such REIGN.");
        NamesUnder x = twelve();
        Check.range("reign", 0, 5, v -> x.missed(v) != NONE);
        for (int reign = 0; reign < 6; reign++) {
            Check.same("without lines", x.missed(reign), 0);
        }
        order(x, 5, "hack 0 when 0;");
        Check.same("by the last", x.missed(5), 4095);
        Check.same("not by the one ahead of it", x.missed(4), 0);
        x.place(3, 6, 0, 0, 0);
        Check.same("not without a first cut", x.missed(5), 4095 - 8);
        Tell.pile(x, 3, Tell.by(0, FIRST, NONE));
        Check.same("nor with one not known", x.missed(5), 4095 - 8);
    }

    public static void main(String[] args) {
        placeFacts();
        standingFacts();
        truth();
        intsWrap();
        fromTheLeft();
        begins();
        reignsInOrder();
        doneIfItCan();
        itsHand();
        outOfNames();
        cantRead();
        putWidths();
        mendLikewise();
        sixCuts();
        everyPlace();
        ladders();
        works();
        ranOfNone();
        madeOfNone();
        agrees();
        agreesWhats();
        slips();
        missed();
        missedOfNone();
        Check.end();
    }
}
