import java.util.NoSuchElementException;

/** Names under names: cuts one over another on walls, and who may have made them when. */
public final class NamesUnder {
    public static final int NONE = -1;

    private static final int NAMES = 8;
    private static final int LETTERS = 8;
    private static final int REIGNS = 6;
    private static final int HANDS = 6;
    private static final int PLACES = 12;
    private static final int LAYERS = 6;
    private static final int BLOCKS = 6;
    private static final int GAPS = 6;
    private static final int TAPE_SIGNS = 1000;

    private static final int SPACE_MOST = 24;
    private static final int HEIGHT_BOUND = 100;
    private static final int SORTS = 4;
    private static final int GRAMMARS = 3;
    private static final int EDGE_BOUND = 1000;
    private static final int COURSES = 10;
    /** How much narrower than the SPACE a first NAME may be. */
    private static final int SLACK = 4;
    /** How much wider than the SPACE a NAME that is put in may be. */
    private static final int CROWDING = 2;

    private static final int FIRST = 0;
    private static final int OUT = 1;
    private static final int HACKED = 2;
    private static final int PUT_IN = 3;
    private static final int MENDED = 4;
    private static final int DOINGS = 5;

    private final Tape tape;
    private final NameList names;
    private final Wall[] walls;
    private final int[] dates;
    private final StoryBook book;
    private final Order[] orders;
    private final OrderReader reader;
    private final Run run;
    private final Masonry masonry;

    public NamesUnder() {
        tape = new Tape();
        names = new NameList();
        walls = new Wall[PLACES];
        for (int i = 0; i < PLACES; i++) {
            walls[i] = new Wall();
        }
        dates = new int[HANDS];
        for (int i = 0; i < HANDS; i++) {
            dates[i] = NONE;
        }
        book = new StoryBook(names, walls, dates);
        orders = new Order[REIGNS];
        for (int i = 0; i < REIGNS; i++) {
            orders[i] = new Order(0);
        }
        reader = new OrderReader(tape, names);
        run = new Run(names, walls, orders);
        masonry = new Masonry();
    }

    public int feed(long a, long b, long c) {
        tape.take(a);
        tape.take(b);
        tape.take(c);
        return tape.length;
    }

    public int name(int name, int reign, boolean she) {
        int answer = tellName(name, reign, she);
        tape.length = 0;
        return answer;
    }

    public int known(int name, int what) {
        if (!names.isTold(name)) {
            return NONE;
        }
        switch (what) {
            case 0:
                return names.reign[name];
            case 1:
                return names.she[name] ? 1 : 0;
            case 2:
                return names.width[name];
            case 3:
                return names.size[name];
            default:
                return NONE;
        }
    }

    public int alike(int a, int b) {
        if (!names.isTold(a) || !names.isTold(b)) {
            return NONE;
        }
        return names.areAlike(a, b) ? 1 : 0;
    }

    public boolean place(int place, int space, int height, int sort, int grammar) {
        boolean sound = isBelow(place, PLACES) && space >= 1 && space <= SPACE_MOST
                && isBelow(height, HEIGHT_BOUND) && isBelow(sort, SORTS) && isBelow(grammar, GRAMMARS);
        if (!sound) {
            return false;
        }
        walls[place].tell(space, height, sort, grammar);
        forgetFindings();
        return true;
    }

    public int cut(int place, int hand, int doing, int name) {
        if (!isPlace(place) || !isBelow(hand, HANDS) || !isBelow(doing, DOINGS)) {
            return NONE;
        }
        boolean nameSound = name == NONE || (!isErasure(doing) && names.isTold(name));
        Wall wall = walls[place];
        if (!nameSound || !wall.canLie(doing, name)) {
            return NONE;
        }
        int layer = wall.size;
        wall.add(hand, doing, name);
        forgetFindings();
        return layer;
    }

    public boolean clean(int place) {
        if (!isPlace(place) || walls[place].size == 0) {
            return false;
        }
        walls[place].removeTop();
        forgetFindings();
        return true;
    }

    public int traces(int place, int layer) {
        int answer = tellTraces(place, layer);
        tape.length = 0;
        return answer;
    }

    public int layer(int place, int layer, int what) throws NoSuchElementException {
        if (!isCut(place, layer) || !isBelow(what, 3)) {
            throw new NoSuchElementException("no such cut");
        }
        Wall wall = walls[place];
        if (what == 0) {
            return wall.hand[layer];
        }
        return what == 1 ? wall.doing[layer] : wall.name[layer];
    }

    public int fits(int place, int layer) {
        return isNameCut(place, layer) ? names.fitting(walls[place], layer, false) : NONE;
    }

    public int crowded(int place, int name) {
        if (!isPlace(place) || !names.isTold(name)) {
            return NONE;
        }
        int over = names.width[name] - walls[place].space;
        if (over > CROWDING) {
            return 2;
        }
        return over > 0 ? 1 : 0;
    }

    public boolean dated(int hand, int reign) {
        if (!isBelow(hand, HANDS) || (reign != NONE && !isBelow(reign, REIGNS))) {
            return false;
        }
        dates[hand] = reign;
        book.forget();
        return true;
    }

    public int stories(int what) {
        switch (what) {
            case 0:
                book.tally();
                return book.total;
            case 1:
                book.tally();
                return book.sureHands();
            case 2:
                book.gatherAll();
                return book.hands;
            default:
                return NONE;
        }
    }

    public int story(int k, int hand) {
        if (!isBusyHand(hand) || k < 0) {
            return NONE;
        }
        book.tally();
        return book.seek(k) ? book.reignOf[hand] : NONE;
    }

    public int odds(int hand, int reign) {
        if (!isBusyHand(hand) || !isBelow(reign, REIGNS)) {
            return NONE;
        }
        book.tally();
        return book.chances[hand * REIGNS + reign];
    }

    public int between(int a, int b) {
        if (!isBusyHand(a) || !isBusyHand(b)) {
            return NONE;
        }
        return book.relations(a, b);
    }

    public int stood(int place, int layer) {
        return isNameCut(place, layer) ? book.standing(walls[place], layer) : NONE;
    }

    public int next(int what) {
        if (!isBelow(what, 2)) {
            return NONE;
        }
        book.tally();
        int hand = book.handToDate();
        if (hand == NONE || what == 0) {
            return hand;
        }
        return book.mostOf(hand);
    }

    public int doubt() {
        return book.doubtful();
    }

    public int order(int reign) {
        int answer = NONE;
        if (isBelow(reign, REIGNS)) {
            answer = reader.read();
            if (answer == 0) {
                orders[reign].copy(reader.sheet);
                run.forget();
            }
        }
        tape.length = 0;
        return answer;
    }

    public boolean works(int reign, int ladder, boolean read) {
        if (!isBelow(reign, REIGNS) || !isBelow(ladder, HEIGHT_BOUND)) {
            return false;
        }
        run.ladder[reign] = ladder;
        run.reads[reign] = read;
        run.forget();
        return true;
    }

    public int ran(int place, int reign) {
        if (!isPlace(place) || !isBelow(reign, REIGNS)) {
            return NONE;
        }
        run.perform();
        return run.sizeBehind[reign * PLACES + place];
    }

    public int made(int place, int layer, int what) {
        if (!isPlace(place) || !isBelow(what, 3)) {
            return NONE;
        }
        run.perform();
        if (!isBelow(layer, run.size[place])) {
            return NONE;
        }
        int at = place * LAYERS + layer;
        if (what == 0) {
            return run.hand[at];
        }
        return what == 1 ? run.doing[at] : run.name[at];
    }

    public int agrees(int what) {
        if (!isBelow(what, 3)) {
            return NONE;
        }
        run.perform();
        if (what == 0) {
            return run.agreeing();
        }
        return what == 1 ? run.slips : run.cutsTogether();
    }

    public int missed(int reign) {
        if (!isBelow(reign, REIGNS)) {
            return NONE;
        }
        run.perform();
        return run.missedBy[reign];
    }

    public int far(int hand, int name, int what) {
        if (!isBelow(hand, HANDS) || !names.isTold(name)) {
            return NONE;
        }
        switch (what) {
            case 0:
                return highestDone(hand, name);
            case 1:
                return lowestLeft(name);
            case 2:
                return sortsDone(hand, name);
            case 3:
                return sortsLeft(name);
            default:
                return NONE;
        }
    }

    public boolean block(boolean gap, int number, int left, int right, int course) {
        boolean sound = isBelow(number, gap ? GAPS : BLOCKS) && isBelow(left, EDGE_BOUND)
                && isBelow(right, EDGE_BOUND) && isBelow(course, COURSES);
        if (!sound || (gap && (left == 0 || right == 0))) {
            return false;
        }
        masonry.tell(gap ? BLOCKS + number : number, left, right, course);
        return true;
    }

    public int ways(int what) {
        if (!isBelow(what, 2)) {
            return NONE;
        }
        masonry.layAll();
        return what == 0 ? masonry.total : masonry.sureBlocks();
    }

    public int back(int block) {
        if (!isBelow(block, BLOCKS) || !masonry.told[block]) {
            return NONE;
        }
        masonry.layAll();
        return masonry.lies[block];
    }

    public int count(int what) {
        switch (what) {
            case 0:
                return names.toldNumber();
            case 1:
                return placesTold();
            case 2:
                return cutsTold();
            case 3:
                return linesTold();
            case 4:
                return masonry.toldNumber(0, BLOCKS);
            case 5:
                return masonry.toldNumber(BLOCKS, GAPS);
            case 6:
                return tape.length;
            default:
                return NONE;
        }
    }

    private int tellName(int name, int reign, boolean she) {
        if (!isBelow(name, NAMES) || !isBelow(reign, REIGNS)) {
            return NONE;
        }
        tape.trim();
        if (!tape.isText(false)) {
            return 1;
        }
        if (names.isOthers(name, tape)) {
            return 2;
        }
        names.tell(name, tape);
        names.reign[name] = reign;
        names.she[name] = she;
        forgetFindings();
        return 0;
    }

    private int tellTraces(int place, int layer) {
        if (!isNameCut(place, layer) || !walls[place].hasOutOver(layer)) {
            return NONE;
        }
        tape.trim();
        if (!tape.isText(true)) {
            return 1;
        }
        walls[place].tellTraces(layer, tape);
        forgetFindings();
        return 0;
    }

    /** What was found out before holds no longer once a name or a wall has changed. */
    private void forgetFindings() {
        book.forget();
        run.forget();
    }

    private int highestDone(int hand, int name) {
        int highest = NONE;
        for (int i = 0; i < PLACES; i++) {
            if (walls[i].isErasedBy(hand, name)) {
                highest = Math.max(highest, walls[i].height);
            }
        }
        return highest;
    }

    private int lowestLeft(int name) {
        int lowest = NONE;
        for (int i = 0; i < PLACES; i++) {
            if (walls[i].bears(name) && (lowest == NONE || walls[i].height < lowest)) {
                lowest = walls[i].height;
            }
        }
        return lowest;
    }

    private int sortsDone(int hand, int name) {
        int sorts = 0;
        for (int i = 0; i < PLACES; i++) {
            if (walls[i].isErasedBy(hand, name)) {
                sorts |= 1 << walls[i].sort;
            }
        }
        return sorts;
    }

    private int sortsLeft(int name) {
        int sorts = 0;
        for (int i = 0; i < PLACES; i++) {
            if (walls[i].bears(name)) {
                sorts |= 1 << walls[i].sort;
            }
        }
        return sorts;
    }

    private int placesTold() {
        int number = 0;
        for (int i = 0; i < PLACES; i++) {
            if (walls[i].told) {
                number++;
            }
        }
        return number;
    }

    private int cutsTold() {
        int number = 0;
        for (int i = 0; i < PLACES; i++) {
            number += walls[i].size;
        }
        return number;
    }

    private int linesTold() {
        int number = 0;
        for (int i = 0; i < REIGNS; i++) {
            number += orders[i].lines;
        }
        return number;
    }

    private boolean isPlace(int place) {
        return isBelow(place, PLACES) && walls[place].told;
    }

    private boolean isCut(int place, int layer) {
        return isPlace(place) && isBelow(layer, walls[place].size);
    }

    private boolean isNameCut(int place, int layer) {
        return isCut(place, layer) && !isErasure(walls[place].doing[layer]);
    }

    private boolean isBusyHand(int hand) {
        if (!isBelow(hand, HANDS)) {
            return false;
        }
        book.gatherAll();
        return book.isBusy(hand);
    }

    private static boolean isBelow(int value, int bound) {
        return value >= 0 && value < bound;
    }

    private static boolean isErasure(int doing) {
        return doing == OUT || doing == HACKED;
    }

    private static boolean isLetter(char sign) {
        return sign >= 'a' && sign <= 'z';
    }

    private static boolean isDigit(char sign) {
        return sign >= '0' && sign <= '9';
    }

    private static boolean isBlank(char sign) {
        return sign == 10 || sign == 32;
    }

    /** The signs that were fed and not yet read. */
    private static final class Tape {
        final char[] signs = new char[TAPE_SIGNS];
        int length = 0;
        int from = 0;
        int upto = 0;

        void take(long eightSigns) {
            for (int shift = 56; shift >= 0; shift -= 8) {
                addSign((int) (eightSigns >>> shift) & 255);
            }
        }

        private void addSign(int sign) {
            boolean allowed = sign == 10 || (sign >= 32 && sign <= 126);
            if (allowed && length < TAPE_SIGNS) {
                signs[length] = (char) sign;
                length++;
            }
        }

        /** Sets from and upto round what is left without the blanks around it. */
        void trim() {
            from = 0;
            upto = length;
            while (from < upto && isBlank(signs[from])) {
                from++;
            }
            while (upto > from && isBlank(signs[upto - 1])) {
                upto--;
            }
        }

        boolean isText(boolean stopsToo) {
            if (upto - from < 1 || upto - from > LETTERS) {
                return false;
            }
            for (int i = from; i < upto; i++) {
                if (!isLetter(signs[i]) && !(stopsToo && signs[i] == '.')) {
                    return false;
                }
            }
            return true;
        }
    }

    /** The NAMES, and which of them fit a CUT. */
    private static final class NameList {
        final boolean[] told = new boolean[NAMES];
        final boolean[] she = new boolean[NAMES];
        final int[] reign = new int[NAMES];
        final int[] size = new int[NAMES];
        final int[] width = new int[NAMES];
        final char[] letters = new char[NAMES * LETTERS];

        boolean isTold(int name) {
            return isBelow(name, NAMES) && told[name];
        }

        int toldNumber() {
            int number = 0;
            for (int i = 0; i < NAMES; i++) {
                if (told[i]) {
                    number++;
                }
            }
            return number;
        }

        boolean isOthers(int name, Tape tape) {
            for (int i = 0; i < NAMES; i++) {
                if (i != name && told[i] && isWord(i, tape)) {
                    return true;
                }
            }
            return false;
        }

        private boolean isWord(int name, Tape tape) {
            if (size[name] != tape.upto - tape.from) {
                return false;
            }
            for (int i = 0; i < size[name]; i++) {
                if (letters[name * LETTERS + i] != tape.signs[tape.from + i]) {
                    return false;
                }
            }
            return true;
        }

        void tell(int name, Tape tape) {
            told[name] = true;
            size[name] = tape.upto - tape.from;
            width[name] = 0;
            for (int i = 0; i < size[name]; i++) {
                char letter = tape.signs[tape.from + i];
                letters[name * LETTERS + i] = letter;
                width[name] += widthOf(letter);
            }
        }

        private static int widthOf(int letter) {
            switch (letter) {
                case 'f':
                case 'i':
                case 'j':
                case 'l':
                case 'r':
                case 't':
                    return 1;
                case 'm':
                case 'w':
                    return 3;
                default:
                    return 2;
            }
        }

        /** One step apart: but for what both begin and end with, one letter is left. */
        boolean areAlike(int a, int b) {
            int shorter = Math.min(size[a], size[b]);
            int longer = Math.max(size[a], size[b]);
            int ahead = 0;
            while (ahead < shorter && letters[a * LETTERS + ahead] == letters[b * LETTERS + ahead]) {
                ahead++;
            }
            int aLast = a * LETTERS + size[a] - 1;
            int bLast = b * LETTERS + size[b] - 1;
            int behind = 0;
            while (behind < shorter - ahead && letters[aLast - behind] == letters[bLast - behind]) {
                behind++;
            }
            return longer - ahead - behind == 1;
        }

        /** The NAMES that fit a CUT, as bits; bare: as if its TRACES were not told. */
        int fitting(Wall wall, int layer, boolean bare) {
            int bits = 0;
            for (int i = 0; i < NAMES; i++) {
                if (told[i] && isFitting(i, wall, layer, bare)) {
                    bits |= 1 << i;
                }
            }
            return bits;
        }

        /** A MENDED one hands the question down to the CUT below the one below it. */
        private boolean isFitting(int name, Wall wall, int layer, boolean bare) {
            for (int at = layer; at >= 0; at -= 2) {
                boolean asTold = wall.name[at] == NONE || wall.name[at] == name;
                boolean asTraced = (bare && at == layer) || hasTraces(name, wall, at);
                if (!asTold || !asTraced) {
                    return false;
                }
                if (wall.doing[at] == FIRST) {
                    return isFirstFitting(name, wall);
                }
                if (wall.doing[at] == PUT_IN) {
                    return width[name] <= wall.space + CROWDING;
                }
            }
            return false;
        }

        private boolean hasTraces(int name, Wall wall, int layer) {
            int seen = wall.traceSize[layer];
            if (seen == 0) {
                return true;
            }
            if (seen != size[name]) {
                return false;
            }
            for (int i = 0; i < seen; i++) {
                char trace = wall.trace[layer * LETTERS + i];
                if (trace != '.' && trace != letters[name * LETTERS + i]) {
                    return false;
                }
            }
            return true;
        }

        private boolean isFirstFitting(int name, Wall wall) {
            boolean ofGrammar = wall.grammar == 0 || she[name] == (wall.grammar == 2);
            return ofGrammar && width[name] <= wall.space && width[name] >= wall.space - SLACK;
        }

        /** The least REIGN of these NAMES; REIGNS if there are none. */
        int leastReign(int bits) {
            int least = REIGNS;
            for (int i = 0; i < NAMES; i++) {
                if ((bits >> i & 1) == 1) {
                    least = Math.min(least, reign[i]);
                }
            }
            return least;
        }
    }

    /** One PLACE with its CUTS. */
    private static final class Wall {
        boolean told = false;
        int space = 0;
        int height = 0;
        int sort = 0;
        int grammar = 0;
        int size = 0;
        final int[] hand = new int[LAYERS];
        final int[] doing = new int[LAYERS];
        final int[] name = new int[LAYERS];
        /** How many places the TRACES have; 0: not told. */
        final int[] traceSize = new int[LAYERS];
        final char[] trace = new char[LAYERS * LETTERS];

        void tell(int newSpace, int newHeight, int newSort, int newGrammar) {
            told = true;
            space = newSpace;
            height = newHeight;
            sort = newSort;
            grammar = newGrammar;
            size = 0;
        }

        boolean canLie(int newDoing, int newName) {
            if (size >= LAYERS) {
                return false;
            }
            if (size == 0 || newDoing == FIRST) {
                return size == 0 && newDoing == FIRST;
            }
            boolean onErasure = isErasure(doing[size - 1]);
            if (isErasure(newDoing)) {
                return !onErasure;
            }
            return onErasure && (newDoing != MENDED || canBeMended(newName));
        }

        private boolean canBeMended(int newName) {
            int below = size >= 2 ? name[size - 2] : NONE;
            return newName == NONE || below == NONE || newName == below;
        }

        void add(int newHand, int newDoing, int newName) {
            if (size < LAYERS) {
                hand[size] = newHand;
                doing[size] = newDoing;
                name[size] = newName;
                traceSize[size] = 0;
                size++;
            }
        }

        /** TRACES are seen along the edge of an OUT and go with it. */
        void removeTop() {
            if (size > 0) {
                size--;
                if (size > 0) {
                    traceSize[size - 1] = 0;
                }
            }
        }

        boolean hasOutOver(int layer) {
            return layer + 1 < size && doing[layer + 1] == OUT;
        }

        void tellTraces(int layer, Tape tape) {
            traceSize[layer] = tape.upto - tape.from;
            for (int i = 0; i < traceSize[layer]; i++) {
                trace[layer * LETTERS + i] = tape.signs[tape.from + i];
            }
        }

        boolean isErasedBy(int someHand, int someName) {
            for (int i = 1; i < size; i++) {
                if (isErasure(doing[i]) && hand[i] == someHand && name[i - 1] == someName) {
                    return true;
                }
            }
            return false;
        }

        boolean bears(int someName) {
            return size > 0 && !isErasure(doing[size - 1]) && name[size - 1] == someName;
        }
    }

    /**
     * The STORIES. All that a wall asks comes down to two kinds of rules: a HAND's REIGN is not
     * ahead of some REIGN (its floor), and one HAND is not ahead of, or is behind, another (a step).
     */
    private static final class StoryBook {
        final NameList names;
        final Wall[] walls;
        final int[] dates;
        int hands = 0;
        boolean barred = false;
        final int[] floor = new int[HANDS];
        final int[] ceiling = new int[HANDS];
        /** From a HAND to another one: 0 not ahead of it, 1 behind it, NONE no rule. */
        final int[] step = new int[HANDS * HANDS];
        /** The least REIGN of NAMES that fit each CUT; REIGNS: none fits. */
        final int[] leastReign = new int[PLACES * LAYERS];
        /** The same of the CUT below the topmost one of a PLACE, if that one goes. */
        final int[] leastReignBare = new int[PLACES];
        /** The earliest REIGN of each HAND under all rules. */
        final int[] earliest = new int[HANDS];
        final int[] keptFloor = new int[HANDS];
        final int[] reignOf = new int[HANDS];
        final int[] chances = new int[HANDS * REIGNS];
        int total = 0;
        boolean gathered = false;
        boolean tallied = false;
        /** Which STORY reignOf holds; NONE: none. */
        int shown = NONE;
        int toSkip = 0;

        StoryBook(NameList nameList, Wall[] wallRow, int[] dateRow) {
            names = nameList;
            walls = wallRow;
            dates = dateRow;
        }

        void forget() {
            gathered = false;
            tallied = false;
            shown = NONE;
        }

        boolean isBusy(int hand) {
            return (hands >> hand & 1) == 1;
        }

        void gatherAll() {
            if (!gathered) {
                findLeastReigns();
                gather(NONE, NONE);
                gathered = true;
            }
        }

        private void findLeastReigns() {
            for (int i = 0; i < PLACES; i++) {
                Wall wall = walls[i];
                for (int layer = 0; layer < wall.size; layer++) {
                    if (!isErasure(wall.doing[layer])) {
                        leastReign[i * LAYERS + layer] = names.leastReign(names.fitting(wall, layer, false));
                    }
                }
                int below = wall.size - 2;
                if (below >= 0 && !isErasure(wall.doing[below])) {
                    leastReignBare[i] = names.leastReign(names.fitting(wall, below, true));
                }
            }
        }

        /** Sets the rules of all walls, of two PLACES without their topmost CUTS. */
        private void gather(int lessA, int lessB) {
            hands = 0;
            barred = false;
            for (int i = 0; i < HANDS * HANDS; i++) {
                step[i] = NONE;
            }
            for (int i = 0; i < HANDS; i++) {
                floor[i] = dates[i] == NONE ? 0 : dates[i];
                ceiling[i] = dates[i] == NONE ? REIGNS - 1 : dates[i];
            }
            for (int i = 0; i < PLACES; i++) {
                weigh(i, i == lessA || i == lessB);
            }
        }

        /**
         * Among the NAMES that fit, the one of the least REIGN serves for all that a CUT and
         * the OUT over it ask, so that one number stands for them.
         */
        private void weigh(int place, boolean less) {
            Wall wall = walls[place];
            int size = less ? wall.size - 1 : wall.size;
            int least = 0;
            for (int layer = 0; layer < size; layer++) {
                int hand = wall.hand[layer];
                int doing = wall.doing[layer];
                hands |= 1 << hand;
                if (layer > 0) {
                    addStep(wall.hand[layer - 1], hand, doing == MENDED ? 1 : 0);
                }
                if (isErasure(doing)) {
                    raise(hand, least + 1);
                } else {
                    boolean bare = less && layer == size - 1;
                    least = bare ? leastReignBare[place] : leastReign[place * LAYERS + layer];
                    barred = barred || least == REIGNS;
                    raise(hand, doing == MENDED ? 0 : least);
                }
            }
        }

        private void addStep(int below, int above, int by) {
            int at = below * HANDS + above;
            step[at] = Math.max(step[at], by);
        }

        private void raise(int hand, int reign) {
            floor[hand] = Math.max(floor[hand], reign);
        }

        /** Whether there is a STORY: the earliest REIGNS that the rules let are the ones to try. */
        private boolean isPossible() {
            if (barred) {
                return false;
            }
            System.arraycopy(floor, 0, earliest, 0, HANDS);
            for (int round = 0; round <= HANDS * REIGNS; round++) {
                boolean moved = pushBehind();
                for (int i = 0; i < HANDS; i++) {
                    if (earliest[i] > ceiling[i]) {
                        return false;
                    }
                }
                if (!moved) {
                    return true;
                }
            }
            return false;
        }

        private boolean pushBehind() {
            boolean moved = false;
            for (int a = 0; a < HANDS; a++) {
                for (int b = 0; b < HANDS; b++) {
                    int by = step[a * HANDS + b];
                    if (by != NONE && earliest[b] < earliest[a] + by) {
                        earliest[b] = earliest[a] + by;
                        moved = true;
                    }
                }
            }
            return moved;
        }

        /** Counts the STORIES, and of each HAND those of each REIGN. */
        void tally() {
            gatherAll();
            if (tallied) {
                return;
            }
            for (int i = 0; i < HANDS * REIGNS; i++) {
                chances[i] = 0;
            }
            shown = NONE;
            total = isPossible() ? countFrom(0) : 0;
            tallied = true;
        }

        private int countFrom(int hand) {
            if (hand >= HANDS) {
                return 1;
            }
            if (!isBusy(hand)) {
                return countFrom(hand + 1);
            }
            boolean last = hands >> hand == 1;
            int high = highest(hand);
            int sum = 0;
            for (int reign = lowest(hand); reign <= high; reign++) {
                reignOf[hand] = reign;
                int number = last ? 1 : countFrom(hand + 1);
                chances[hand * REIGNS + reign] += number;
                sum += number;
            }
            return sum;
        }

        /** The earliest REIGN that the HANDS ahead of this one in number, being set, let it have. */
        private int lowest(int hand) {
            int low = earliest[hand];
            for (int i = 0; i < hand; i++) {
                int by = step[i * HANDS + hand];
                if (by != NONE) {
                    low = Math.max(low, reignOf[i] + by);
                }
            }
            return low;
        }

        private int highest(int hand) {
            int high = ceiling[hand];
            for (int i = 0; i < hand; i++) {
                int by = step[hand * HANDS + i];
                if (by != NONE) {
                    high = Math.min(high, reignOf[i] - by);
                }
            }
            return high;
        }

        /** Puts the k-th STORY into reignOf, if there is one; the STORIES have to be counted. */
        boolean seek(int k) {
            if (k < 0 || k >= total) {
                return false;
            }
            if (shown != k && isPossible()) {
                toSkip = k;
                shown = seekFrom(0) ? k : NONE;
            }
            return shown == k;
        }

        private boolean seekFrom(int hand) {
            if (hand >= HANDS) {
                return toSkip == 0;
            }
            if (!isBusy(hand)) {
                return seekFrom(hand + 1);
            }
            int low = lowest(hand);
            int high = highest(hand);
            if (hands >> hand == 1) {
                return skipLast(hand, low, high);
            }
            for (int reign = low; reign <= high; reign++) {
                reignOf[hand] = reign;
                if (seekFrom(hand + 1)) {
                    return true;
                }
            }
            return false;
        }

        private boolean skipLast(int hand, int low, int high) {
            int number = Math.max(0, high - low + 1);
            if (toSkip >= number) {
                toSkip -= number;
                return false;
            }
            reignOf[hand] = low + toSkip;
            return true;
        }

        int sureHands() {
            int bits = 0;
            for (int i = 0; i < HANDS; i++) {
                if (total > 0 && isBusy(i) && mostOf(i) == total) {
                    bits |= 1 << i;
                }
            }
            return bits;
        }

        /** The greatest number of STORIES that give a HAND one and the same REIGN. */
        int mostOf(int hand) {
            int most = 0;
            for (int i = 0; i < REIGNS; i++) {
                most = Math.max(most, chances[hand * REIGNS + i]);
            }
            return most;
        }

        int handToDate() {
            int best = NONE;
            for (int i = 0; i < HANDS; i++) {
                boolean open = total > 0 && isBusy(i) && dates[i] == NONE;
                if (open && (best == NONE || mostOf(i) < mostOf(best))) {
                    best = i;
                }
            }
            return best;
        }

        int relations(int a, int b) {
            gatherAll();
            int bits = 0;
            if (isPossibleWith(a, b, 1, NONE)) {
                bits |= 1;
            }
            if (isPossibleWith(a, b, 0, 0)) {
                bits |= 2;
            }
            if (isPossibleWith(a, b, NONE, 1)) {
                bits |= 4;
            }
            return bits;
        }

        private boolean isPossibleWith(int a, int b, int there, int here) {
            int keptThere = step[a * HANDS + b];
            int keptHere = step[b * HANDS + a];
            addStep(a, b, there);
            addStep(b, a, here);
            boolean possible = isPossible();
            step[b * HANDS + a] = keptHere;
            step[a * HANDS + b] = keptThere;
            return possible;
        }

        int standing(Wall wall, int layer) {
            gatherAll();
            if (!isPossible()) {
                return NONE;
            }
            int fitting = names.fitting(wall, layer, false);
            int bits = 0;
            for (int i = 0; i < NAMES; i++) {
                if ((fitting >> i & 1) == 1 && mayHaveStood(wall, layer, names.reign[i])) {
                    bits |= 1 << i;
                }
            }
            return bits;
        }

        private boolean mayHaveStood(Wall wall, int layer, int reign) {
            System.arraycopy(floor, 0, keptFloor, 0, HANDS);
            if (wall.doing[layer] != MENDED) {
                raise(wall.hand[layer], reign);
            }
            if (layer + 1 < wall.size) {
                raise(wall.hand[layer + 1], reign + 1);
            }
            boolean possible = isPossible();
            System.arraycopy(keptFloor, 0, floor, 0, HANDS);
            return possible;
        }

        int doubtful() {
            gatherAll();
            if (isPossible()) {
                return NONE;
            }
            int bits = doubtfulOne();
            if (bits == NONE) {
                bits = doubtfulTwo();
            }
            forget();
            return bits;
        }

        private int doubtfulOne() {
            for (int a = 0; a < PLACES; a++) {
                if (isPossibleWithout(a, a)) {
                    return 1 << a;
                }
            }
            return NONE;
        }

        private int doubtfulTwo() {
            for (int a = 0; a < PLACES; a++) {
                for (int b = a + 1; b < PLACES; b++) {
                    if (isPossibleWithout(a, b)) {
                        return 1 << a | 1 << b;
                    }
                }
            }
            return NONE;
        }

        private boolean isPossibleWithout(int a, int b) {
            if (walls[a].size == 0 || walls[b].size == 0) {
                return false;
            }
            gather(a, b);
            return isPossible();
        }
    }

    /** The LINES of a REIGN's ORDER; what each asks is kept with operators behind their parts. */
    private static final class Order {
        static final int LINES = 12;
        int lines = 0;
        int codeSize = 0;
        final int[] doing = new int[LINES];
        final int[] target = new int[LINES];
        final int[] from = new int[LINES];
        final int[] upto = new int[LINES];
        int[] code;

        Order(int room) {
            code = new int[Math.max(0, room)];
        }

        void clear() {
            lines = 0;
            codeSize = 0;
        }

        void addCode(int sign) {
            if (codeSize < code.length) {
                code[codeSize] = sign;
                codeSize++;
            }
        }

        /** The row of code grows only with what was fed, which keeps a new object small. */
        void copy(Order other) {
            lines = other.lines;
            codeSize = other.codeSize;
            if (code.length < codeSize) {
                code = new int[codeSize];
            }
            System.arraycopy(other.code, 0, code, 0, codeSize);
            System.arraycopy(other.doing, 0, doing, 0, LINES);
            System.arraycopy(other.target, 0, target, 0, LINES);
            System.arraycopy(other.from, 0, from, 0, LINES);
            System.arraycopy(other.upto, 0, upto, 0, LINES);
        }
    }

    /** Kinds of TOKENS; WORDS have the number of their cell in the table. */
    private static final class Kind {
        /** Each WORD in a cell of eight signs. */
        static final String WORDS = "out     hack    put     mend    when    and     or      not     height  space   sort    width   place   cuts    stands  ";
        static final int WORD_NUMBER = 15;
        static final int MEND = 3;
        static final int WHEN = 4;
        static final int AND = 5;
        static final int OR = 6;
        static final int NOT = 7;
        static final int HEIGHT = 8;
        static final int SPACE = 9;
        static final int SORT = 10;
        static final int WIDTH = 11;
        static final int PLACE = 12;
        static final int CUTS = 13;
        static final int STANDS = 14;
        static final int NUMBER = 15;
        static final int OPEN = 16;
        static final int CLOSE = 17;
        static final int LESS = 18;
        static final int EQUAL = 19;
        static final int PLUS = 20;
        static final int MINUS = 21;
        static final int TIMES = 22;
        static final int STOP = 23;
        static final int END = 24;
        static final int NOTHING = 25;
        /** Code is a kind and, of a NUMBER, this many times its value. */
        static final int CODE_STEP = 32;
    }

    /** Reads the TAPE as an ORDER. */
    private static final class OrderReader {
        static final int DEPTH = 5;
        static final int DIGITS = 4;
        static final int RANK_AND = 1;
        static final int RANK_LESS = 2;
        static final int RANK_PLUS = 3;
        static final int RANK_TIMES = 4;
        /** Far above what can wait: a sign of each rank at each depth, and what encloses them. */
        static final int HELD = 64;
        final Tape tape;
        final NameList names;
        final Order sheet = new Order(TAPE_SIGNS);
        int at = 0;
        int kind = Kind.END;
        int start = 0;
        int value = 0;
        int fault = 0;
        final int[] held = new int[HELD];
        int waiting = 0;
        /** How many of not and ( ) are open. */
        int within = 0;
        boolean partNext = true;

        OrderReader(Tape theTape, NameList nameList) {
            tape = theTape;
            names = nameList;
        }

        /** The FAULT, or 0: then the sheet holds the ORDER. */
        int read() {
            sheet.clear();
            at = 0;
            fault = 0;
            advance();
            boolean sound = true;
            for (int line = 0; line <= Order.LINES && sound && kind != Kind.END; line++) {
                sound = readLine(line);
            }
            return sound ? 0 : fault;
        }

        private boolean refuse(int faultKind) {
            fault = faultKind + 16 * start;
            return false;
        }

        private boolean readLine(int line) {
            if (kind > Kind.MEND) {
                return refuse(1);
            }
            if (line >= Order.LINES) {
                return refuse(5);
            }
            sheet.doing[line] = kind + OUT;
            advance();
            if (!readTarget(line)) {
                return false;
            }
            if (kind != Kind.WHEN) {
                return refuse(1);
            }
            advance();
            sheet.from[line] = sheet.codeSize;
            if (!readWhen()) {
                return false;
            }
            sheet.upto[line] = sheet.codeSize;
            sheet.lines = line + 1;
            advance();
            return true;
        }

        private boolean readTarget(int line) {
            if (kind != Kind.NUMBER) {
                return refuse(1);
            }
            if (value >= NAMES) {
                return refuse(4);
            }
            if (!names.isTold(value)) {
                return refuse(2);
            }
            sheet.target[line] = value;
            advance();
            return true;
        }

        /** Reads E up to the stop behind it; signs wait until both their parts are read. */
        private boolean readWhen() {
            waiting = 0;
            within = 0;
            partNext = true;
            boolean sound = true;
            for (int i = 0; i <= TAPE_SIGNS && sound && (partNext || kind != Kind.STOP); i++) {
                sound = partNext ? takePart() : takeJoint();
                if (sound) {
                    advance();
                }
            }
            if (!sound) {
                return false;
            }
            release(RANK_AND);
            return waiting == 0 || refuse(1);
        }

        private boolean takePart() {
            boolean fact = kind >= Kind.HEIGHT && kind <= Kind.STANDS;
            boolean simple = fact || kind == Kind.NUMBER;
            if (!simple && kind != Kind.NOT && kind != Kind.OPEN) {
                return refuse(1);
            }
            if (within >= DEPTH) {
                return refuse(5);
            }
            if (simple) {
                sheet.addCode(fact ? kind : kind + Kind.CODE_STEP * value);
                endPart();
            } else {
                hold(kind);
                within++;
            }
            return true;
        }

        private boolean takeJoint() {
            if (kind == Kind.CLOSE) {
                return close();
            }
            int rank = rankOf(kind);
            if (rank == 0) {
                return refuse(1);
            }
            // A second < or = finds the first one still waiting: a TEST has but one.
            release(rank == RANK_LESS ? rank + 1 : rank);
            if (rank == RANK_LESS && waiting > 0 && rankOf(held[waiting - 1]) == RANK_LESS) {
                return refuse(1);
            }
            hold(kind);
            partNext = true;
            return true;
        }

        private boolean close() {
            release(RANK_AND);
            if (waiting == 0) {
                return refuse(1);
            }
            waiting--;
            within--;
            endPart();
            return true;
        }

        /** A PART is read: each not right ahead of it has what it denies. */
        private void endPart() {
            partNext = false;
            for (int i = waiting; i > 0 && held[i - 1] == Kind.NOT; i--) {
                sheet.addCode(Kind.NOT);
                waiting--;
                within--;
            }
        }

        private void hold(int sign) {
            if (waiting < HELD) {
                held[waiting] = sign;
                waiting++;
            }
        }

        /** Signs that bind as this rank does or closer have both their parts. */
        private void release(int rank) {
            for (int i = waiting; i > 0 && rankOf(held[i - 1]) >= rank; i--) {
                sheet.addCode(held[i - 1]);
                waiting--;
            }
        }

        /** How close a sign binds; 0: it joins nothing. */
        private static int rankOf(int sign) {
            switch (sign) {
                case Kind.AND:
                case Kind.OR:
                    return RANK_AND;
                case Kind.LESS:
                case Kind.EQUAL:
                    return RANK_LESS;
                case Kind.PLUS:
                case Kind.MINUS:
                    return RANK_PLUS;
                case Kind.TIMES:
                    return RANK_TIMES;
                default:
                    return 0;
            }
        }

        /** Goes on to the next TOKEN. */
        private void advance() {
            while (at < tape.length && isBlank(tape.signs[at])) {
                at++;
            }
            start = at;
            if (at >= tape.length) {
                kind = Kind.END;
            } else if (isLetter(tape.signs[at])) {
                takeWord();
            } else if (isDigit(tape.signs[at])) {
                takeNumber();
            } else {
                kind = kindOfSign(tape.signs[at]);
                at++;
            }
        }

        private void takeWord() {
            while (at < tape.length && isLetter(tape.signs[at])) {
                at++;
            }
            kind = Kind.NOTHING;
            for (int cell = 0; cell < Kind.WORD_NUMBER && at - start <= LETTERS; cell++) {
                if (isWordOfCell(cell)) {
                    kind = cell;
                    return;
                }
            }
        }

        private boolean isWordOfCell(int cell) {
            for (int i = 0; i < LETTERS; i++) {
                char sign = start + i < at ? tape.signs[start + i] : ' ';
                if (sign != Kind.WORDS.charAt(cell * LETTERS + i)) {
                    return false;
                }
            }
            return true;
        }

        private void takeNumber() {
            value = 0;
            while (at < tape.length && isDigit(tape.signs[at])) {
                value = value * 10 + (tape.signs[at] - '0');
                at++;
            }
            kind = at - start > DIGITS ? Kind.NOTHING : Kind.NUMBER;
        }

        private static int kindOfSign(int sign) {
            switch (sign) {
                case '(':
                    return Kind.OPEN;
                case ')':
                    return Kind.CLOSE;
                case '<':
                    return Kind.LESS;
                case '=':
                    return Kind.EQUAL;
                case '+':
                    return Kind.PLUS;
                case '-':
                    return Kind.MINUS;
                case '*':
                    return Kind.TIMES;
                case ';':
                    return Kind.STOP;
                default:
                    return Kind.NOTHING;
            }
        }
    }

    /** The RUN: what the ORDERS would have made of the FIRST CUTS. */
    private static final class Run {
        static final int NO_NAME = 99;
        /** Far above what E can need: four parts wait at each of its five depths at most. */
        static final int STACK = 64;
        final NameList names;
        final Wall[] walls;
        final Order[] orders;
        final int[] ladder = new int[REIGNS];
        final boolean[] reads = new boolean[REIGNS];
        final int[] size = new int[PLACES];
        final int[] hand = new int[PLACES * LAYERS];
        final int[] doing = new int[PLACES * LAYERS];
        final int[] name = new int[PLACES * LAYERS];
        final int[] sizeBehind = new int[REIGNS * PLACES];
        final int[] missedBy = new int[REIGNS];
        final int[] stack = new int[STACK];
        int slips = 0;
        boolean fresh = false;

        Run(NameList nameList, Wall[] wallRow, Order[] orderRow) {
            names = nameList;
            walls = wallRow;
            orders = orderRow;
            for (int i = 0; i < REIGNS; i++) {
                ladder[i] = HEIGHT_BOUND - 1;
                reads[i] = true;
            }
        }

        void forget() {
            fresh = false;
        }

        void perform() {
            if (fresh) {
                return;
            }
            slips = 0;
            for (int i = 0; i < PLACES; i++) {
                begin(i);
            }
            for (int reign = 0; reign < REIGNS; reign++) {
                for (int i = 0; i < PLACES; i++) {
                    obey(reign, i);
                    sizeBehind[reign * PLACES + i] = size[i];
                }
                missedBy[reign] = findMissed(reign);
            }
            fresh = true;
        }

        private void begin(int place) {
            Wall wall = walls[place];
            size[place] = 0;
            if (wall.told && wall.size > 0 && wall.name[0] != NONE) {
                add(place, NONE, FIRST, wall.name[0]);
            }
        }

        private void add(int place, int byHand, int newDoing, int newName) {
            if (size[place] < LAYERS) {
                int at = place * LAYERS + size[place];
                hand[at] = byHand;
                doing[at] = newDoing;
                name[at] = newName;
                size[place]++;
            }
        }

        private void obey(int reign, int place) {
            Order order = orders[reign];
            if (size[place] == 0 || ladder[reign] < walls[place].height) {
                return;
            }
            for (int line = 0; line < order.lines; line++) {
                int target = order.target[line];
                if (canDo(reign, place, order.doing[line], target) && evaluate(order, line, place) != 0) {
                    work(reign, place, order.doing[line], target);
                }
            }
        }

        /** The NAME that stands; NONE also where the topmost CUT is OUT or HACKED. */
        private int standingAt(int place) {
            return size[place] == 0 ? NONE : name[place * LAYERS + size[place] - 1];
        }

        private boolean canDo(int reign, int place, int newDoing, int target) {
            if (size[place] >= LAYERS) {
                return false;
            }
            int standing = standingAt(place);
            if (isErasure(newDoing)) {
                return standing == target
                        || (standing != NONE && !reads[reign] && names.areAlike(standing, target));
            }
            if (standing != NONE || names.width[target] > walls[place].space + CROWDING) {
                return false;
            }
            return newDoing == PUT_IN || isBelowTop(place, target);
        }

        private boolean isBelowTop(int place, int target) {
            return size[place] >= 2 && name[place * LAYERS + size[place] - 2] == target;
        }

        private void work(int reign, int place, int newDoing, int target) {
            if (isErasure(newDoing)) {
                if (standingAt(place) != target) {
                    slips++;
                }
                add(place, reign, newDoing, NONE);
            } else {
                add(place, reign, newDoing, target);
            }
        }

        private int findMissed(int reign) {
            int bits = 0;
            for (int i = 0; i < PLACES; i++) {
                int standing = standingAt(i);
                if (standing != NONE && isAgainst(orders[reign], standing)) {
                    bits |= 1 << i;
                }
            }
            return bits;
        }

        private static boolean isAgainst(Order order, int standing) {
            for (int line = 0; line < order.lines; line++) {
                if (isErasure(order.doing[line]) && order.target[line] == standing) {
                    return true;
                }
            }
            return false;
        }

        private int evaluate(Order order, int line, int place) {
            int top = 0;
            for (int i = order.from[line]; i < order.upto[line]; i++) {
                int code = order.code[i];
                int kind = code % Kind.CODE_STEP;
                if (kind == Kind.NOT) {
                    if (top >= 1) {
                        stack[top - 1] = stack[top - 1] == 0 ? 1 : 0;
                    }
                } else if (kind >= Kind.HEIGHT && kind <= Kind.NUMBER) {
                    if (top < STACK) {
                        stack[top] = kind == Kind.NUMBER ? code / Kind.CODE_STEP : fact(kind, place);
                        top++;
                    }
                } else if (top >= 2) {
                    stack[top - 2] = join(kind, stack[top - 2], stack[top - 1]);
                    top--;
                }
            }
            return top >= 1 ? stack[top - 1] : 0;
        }

        private int fact(int kind, int place) {
            int standing = standingAt(place);
            switch (kind) {
                case Kind.HEIGHT:
                    return walls[place].height;
                case Kind.SPACE:
                    return walls[place].space;
                case Kind.SORT:
                    return walls[place].sort;
                case Kind.WIDTH:
                    return standing == NONE ? 0 : names.width[standing];
                case Kind.PLACE:
                    return place;
                case Kind.CUTS:
                    return size[place];
                default:
                    return standing == NONE ? NO_NAME : standing;
            }
        }

        private static int join(int kind, int a, int b) {
            switch (kind) {
                case Kind.AND:
                    return a != 0 && b != 0 ? 1 : 0;
                case Kind.OR:
                    return a != 0 || b != 0 ? 1 : 0;
                case Kind.LESS:
                    return a < b ? 1 : 0;
                case Kind.EQUAL:
                    return a == b ? 1 : 0;
                case Kind.PLUS:
                    return a + b;
                case Kind.MINUS:
                    return a - b;
                default:
                    return a * b;
            }
        }

        int agreeing() {
            int bits = 0;
            for (int i = 0; i < PLACES; i++) {
                if (walls[i].told && isAsTold(i)) {
                    bits |= 1 << i;
                }
            }
            return bits;
        }

        private boolean isAsTold(int place) {
            Wall wall = walls[place];
            if (wall.size != size[place]) {
                return false;
            }
            for (int i = 0; i < wall.size; i++) {
                int at = place * LAYERS + i;
                boolean sameName = wall.name[i] == NONE || wall.name[i] == name[at];
                if (wall.doing[i] != doing[at] || !sameName) {
                    return false;
                }
            }
            return true;
        }

        int cutsTogether() {
            int number = 0;
            for (int i = 0; i < PLACES; i++) {
                number += size[i];
            }
            return number;
        }
    }

    /** BLOCKS, then GAPS, in one row, and the WAYS to put the BLOCKS back. */
    private static final class Masonry {
        final boolean[] told = new boolean[BLOCKS + GAPS];
        final int[] left = new int[BLOCKS + GAPS];
        final int[] right = new int[BLOCKS + GAPS];
        final int[] course = new int[BLOCKS + GAPS];
        /** GAPS in which a BLOCK lies in some WAY, as bits. */
        final int[] lies = new int[BLOCKS];
        int total = 0;
        boolean fresh = false;

        void tell(int at, int newLeft, int newRight, int newCourse) {
            told[at] = true;
            left[at] = newLeft;
            right[at] = newRight;
            course[at] = newCourse;
            fresh = false;
        }

        int toldNumber(int from, int size) {
            int number = 0;
            for (int i = from; i < from + size; i++) {
                if (told[i]) {
                    number++;
                }
            }
            return number;
        }

        void layAll() {
            if (fresh) {
                return;
            }
            for (int i = 0; i < BLOCKS; i++) {
                lies[i] = 0;
            }
            total = layFrom(0, 0);
            fresh = true;
        }

        private int layFrom(int block, int filled) {
            if (block >= BLOCKS) {
                return 1;
            }
            if (!told[block]) {
                return layFrom(block + 1, filled);
            }
            int sum = 0;
            for (int gap = 0; gap < GAPS; gap++) {
                if ((filled >> gap & 1) == 0 && isSuited(block, BLOCKS + gap)) {
                    int number = layFrom(block + 1, filled | 1 << gap);
                    if (number > 0) {
                        lies[block] |= 1 << gap;
                    }
                    sum += number;
                }
            }
            return sum;
        }

        /** An EDGE that is WORN lets all, but one EDGE has to be seen. */
        private boolean isSuited(int block, int gap) {
            if (!told[gap] || course[block] != course[gap]) {
                return false;
            }
            boolean leftSame = left[block] == left[gap];
            boolean rightSame = right[block] == right[gap];
            return (leftSame && (rightSame || right[block] == 0)) || (rightSame && left[block] == 0);
        }

        int sureBlocks() {
            int bits = 0;
            for (int i = 0; i < BLOCKS; i++) {
                if (told[i] && Integer.bitCount(lies[i]) == 1) {
                    bits |= 1 << i;
                }
            }
            return bits;
        }
    }
}
