/** Three nets of words of the letters a to d; beside them a pack, a list, a text and a cursor. */
public final class Wordnet {
    private static final int NONE = -1;
    private static final int EMPTY = -9;
    private static final int VOID = -8;
    private static final int WRONG = -7;
    private static final int TOO_LONG = -6;
    private static final int TOO_MANY = -5;
    private static final int OUT_OF_PLACE = -100;

    private static final int NETS = 3;
    private static final int LETTERS = 4;
    private static final int LONGEST = 6;
    private static final int CODES = 5461;
    private static final int WORDS = 120;
    private static final int SOWN = 60;
    private static final int SHOWN = 20;
    private static final int SIGNS = 60;
    private static final int PLACE_SETS = 64;
    private static final int BEGINNINGS = 1 + WORDS * LONGEST;
    private static final int NUMBERS_OF_STATE = 1 + LETTERS;

    /** The first CODE of the words with so many LETTERS. */
    private static final int[] FIRST_CODES = {0, 1, 5, 21, 85, 341, 1365};
    /** How many words of all that there can be begin with a text of so many LETTERS. */
    private static final int[] SPANS = {5461, 1365, 341, 85, 21, 5, 1};

    private static final int CODE_OF_A = 1;
    private static final int CODE_OF_AB = 6;
    private static final int CODE_OF_ABC = 27;

    private final Net[] nets = new Net[NETS];
    private final Shelf list = new Shelf();
    private final Pack pack = new Pack();
    private final Strip strip = new Strip();
    private final Ruler ruler = new Ruler();
    private final Shelf spareShelf = new Shelf();
    private final Pack sparePack = new Pack();
    private int cursorNet;
    private int cursorCode;
    private int knocks;

    public Wordnet() {
        for (int k = 0; k < NETS; k++) {
            nets[k] = new Net();
        }
    }

    // ---- words in and out

    public boolean tell(int net, int code) throws IndexOutOfBoundsException, IllegalArgumentException, IllegalStateException {
        Shelf shelf = shelfOf(net);
        demandCode(code);
        if (!shelf.holds(code) && shelf.isFull()) {
            throw new IllegalStateException("the word does not fit");
        }
        return shelf.add(code);
    }

    public boolean take(int net, int code) throws IndexOutOfBoundsException, IllegalArgumentException {
        Shelf shelf = shelfOf(net);
        demandCode(code);
        return shelf.remove(code);
    }

    public int sow(int net, int from, int step, int many) throws IndexOutOfBoundsException, IllegalArgumentException {
        Shelf shelf = shelfOf(net);
        demandCode(from);
        demandCode(step);
        demand(many, 1, SOWN);
        int added = 0;
        for (int k = 0; k < many; k++) {
            if (shelf.add((from + k * step) % CODES)) {
                added++;
            }
        }
        return added;
    }

    public int fill(int net, int code, int gaps) throws IndexOutOfBoundsException, IllegalArgumentException {
        Shelf shelf = shelfOf(net);
        demandCode(code);
        demandPlaces(gaps);
        int ways = Code.waysToFill(code, gaps);
        int added = 0;
        for (int nth = 0; nth < ways && !shelf.isFull(); nth++) {
            if (shelf.add(Code.filled(code, gaps, nth))) {
                added++;
            }
        }
        return added;
    }

    public int prune(int net, int code) throws IndexOutOfBoundsException, IllegalArgumentException {
        Shelf shelf = shelfOf(net);
        demandCode(code);
        return shelf.removeStarting(code);
    }

    public int clear(int net) throws IndexOutOfBoundsException {
        return shelfOf(net).empty();
    }

    // ---- nets as a whole

    public int least(int net) throws IndexOutOfBoundsException {
        Net one = netOf(net);
        int before = one.states();
        one.setLeast(true);
        return before - one.states();
    }

    public int loose(int net) throws IndexOutOfBoundsException {
        Net one = netOf(net);
        int before = one.states();
        one.setLeast(false);
        return one.states() - before;
    }

    public int mix(int net, int other, int how) throws IndexOutOfBoundsException, IllegalArgumentException, IllegalStateException {
        Shelf shelf = shelfOf(net);
        Shelf second = shelfOf(other);
        demand(how, 0, 3);
        int many = spareShelf.becomeMix(shelf, second, how);
        if (many > WORDS) {
            throw new IllegalStateException("the words are too many");
        }
        shelf.become(spareShelf);
        return many;
    }

    public int copy(int net, int other) throws IndexOutOfBoundsException, IllegalArgumentException {
        Net one = netOf(net);
        Net second = netOf(other);
        if (net == other) {
            throw new IllegalArgumentException("a net is not copied to itself");
        }
        one.shelf().become(second.shelf());
        one.setLeast(second.isLeast());
        return one.shelf().held();
    }

    public int turn(int net) throws IndexOutOfBoundsException {
        Shelf shelf = shelfOf(net);
        spareShelf.empty();
        int added = 0;
        for (int k = 0; k < shelf.held(); k++) {
            int turned = Code.turned(shelf.codeAt(k));
            spareShelf.add(turned);
            if (!shelf.holds(turned)) {
                added++;
            }
        }
        shelf.become(spareShelf);
        return added;
    }

    // ---- the pack

    public int pack(int net) throws IndexOutOfBoundsException {
        Net one = netOf(net);
        pack.become(one.graph(), one.isLeast());
        return pack.held();
    }

    public int poke(int place, int number) throws IndexOutOfBoundsException {
        int before = packed(place);
        pack.write(place, number);
        return before;
    }

    public int unpack(int net) throws IndexOutOfBoundsException {
        Shelf shelf = shelfOf(net);
        if (pack.held() == 0) {
            return EMPTY;
        }
        int many = pack.readInto(spareShelf);
        if (many >= 0) {
            shelf.become(spareShelf);
        }
        return many;
    }

    // ---- the list, the text, the cursor

    public int gather(int net, int how, int code, int extra) throws IndexOutOfBoundsException, IllegalArgumentException {
        Shelf shelf = shelfOf(net);
        demandChoice(how, code, extra);
        list.empty();
        for (int k = 0; k < shelf.held(); k++) {
            if (isChosen(shelf.codeAt(k), how, code, extra)) {
                list.add(shelf.codeAt(k));
            }
        }
        return list.held();
    }

    public int spread(int net) throws IndexOutOfBoundsException {
        Shelf shelf = shelfOf(net);
        int added = 0;
        for (int k = 0; k < list.held(); k++) {
            if (shelf.add(list.codeAt(k))) {
                added++;
            }
        }
        return added;
    }

    public int listPoll(boolean isLast) {
        if (list.held() == 0) {
            return EMPTY;
        }
        int code = list.codeAt(isLast ? list.held() - 1 : 0);
        list.remove(code);
        return code;
    }

    public int say(int code) throws IllegalArgumentException, IllegalStateException {
        demandCode(code);
        if (!strip.hasRoomFor(code)) {
            throw new IllegalStateException("the text would be too long");
        }
        strip.append(code);
        return strip.held();
    }

    public int hush() {
        return strip.empty();
    }

    public int enter(int net) throws IndexOutOfBoundsException {
        Shelf shelf = shelfOf(net);
        cursorNet = net;
        cursorCode = 0;
        return shelf.held();
    }

    public int step(int letter) throws IllegalArgumentException {
        demand(letter, NONE, LETTERS - 1);
        if (letter == NONE) {
            return VOID;
        }
        int further = Code.longer(cursorCode, letter);
        int many = shelfOf(cursorNet).starting(further);
        if (many == 0) {
            return NONE;
        }
        cursorCode = further;
        return many;
    }

    public int back() {
        if (cursorCode == 0) {
            return EMPTY;
        }
        int letter = Code.lastLetter(cursorCode);
        cursorCode = Code.shorter(cursorCode);
        return letter;
    }

    public int knock() {
        knocks++;
        return knocks;
    }

    // ---- what is asked of a net

    public boolean has(int net, int code) throws IndexOutOfBoundsException, IllegalArgumentException {
        Shelf shelf = shelfOf(net);
        demandCode(code);
        return shelf.holds(code);
    }

    public int ofNet(int net, int what) throws IndexOutOfBoundsException, IllegalArgumentException {
        Net one = netOf(net);
        demand(what, 0, 9);
        Shelf shelf = one.shelf();
        switch (what) {
            case 0:
                return shelf.held();
            case 1:
                return one.graph().states(one.isLeast());
            case 2:
                return one.graph().lines(one.isLeast());
            case 3:
                return one.isLeast() ? 1 : 0;
            case 4:
                return one.graph().states(true);
            case 5:
                return one.graph().states(false);
            case 6:
                return shelf.mostLetters();
            case 7:
                return shelf.fewestLetters();
            case 8:
                return shelf.codeAt(0);
            default:
                return shelf.codeAt(shelf.held() - 1);
        }
    }

    public int below(int net, int code) throws IndexOutOfBoundsException, IllegalArgumentException {
        Shelf shelf = shelfOf(net);
        demandCode(code);
        return shelf.starting(code);
    }

    public int rank(int net, int code) throws IndexOutOfBoundsException, IllegalArgumentException {
        Shelf shelf = shelfOf(net);
        demandCode(code);
        return shelf.ahead(Code.seat(code));
    }

    public int atRank(int net, int rank) throws IndexOutOfBoundsException, IllegalArgumentException {
        Shelf shelf = shelfOf(net);
        demandNotBelowZero(rank);
        return shelf.codeAt(rank);
    }

    public int pick(int net, int number) throws IndexOutOfBoundsException {
        Shelf shelf = shelfOf(net);
        int many = shelf.held();
        return many == 0 ? NONE : shelf.codeAt(Math.floorMod(number, many));
    }

    public int next(int net, int code, int way) throws IndexOutOfBoundsException, IllegalArgumentException {
        Shelf shelf = shelfOf(net);
        demandCode(code);
        demand(way, 0, 3);
        int seat = Code.seat(code);
        switch (way) {
            case 0:
                return shelf.codeAt(shelf.ahead(seat + 1) - 1);
            case 1:
                return shelf.codeAt(shelf.ahead(seat) - 1);
            case 2:
                return shelf.codeAt(shelf.ahead(seat));
            default:
                return shelf.codeAt(shelf.ahead(seat + 1));
        }
    }

    public int letters(int net, int code) throws IndexOutOfBoundsException, IllegalArgumentException {
        Shelf shelf = shelfOf(net);
        demandCode(code);
        return shelf.lettersBehind(code);
    }

    public int firstLetter(int net, int code, boolean isLast) throws IndexOutOfBoundsException, IllegalArgumentException {
        int set = letters(net, code);
        if (set == NONE) {
            return EMPTY;
        }
        int found = EMPTY;
        for (int letter = 0; letter < LETTERS; letter++) {
            if (isIn(set, letter) && (isLast || found == EMPTY)) {
                found = letter;
            }
        }
        return found;
    }

    public int lettersBetween(int net, int code, int from, int to) throws IndexOutOfBoundsException, IllegalArgumentException {
        int set = letters(net, code);
        demand(from, 0, LETTERS);
        demand(to, 0, LETTERS);
        if (from > to) {
            return WRONG;
        }
        int many = 0;
        for (int letter = from; letter < to; letter++) {
            if (set != NONE && isIn(set, letter)) {
                many++;
            }
        }
        return many;
    }

    public String words(int net, int from, int many) throws IndexOutOfBoundsException, IllegalArgumentException {
        Shelf shelf = shelfOf(net);
        demandNotBelowZero(from);
        demand(many, 1, SHOWN);
        StringBuilder out = new StringBuilder();
        int shown = Math.min(many, shelf.held() - from);
        for (int k = 0; k < shown; k++) {
            if (k > 0) {
                out.append(' ');
            }
            int code = shelf.codeAt(from + k);
            if (code == 0) {
                out.append('-');
            }
            appendLetters(out, code);
        }
        return out.toString();
    }

    public int count(int net, int how, int code, int extra) throws IndexOutOfBoundsException, IllegalArgumentException {
        Shelf shelf = shelfOf(net);
        demandChoice(how, code, extra);
        int many = 0;
        for (int k = 0; k < shelf.held(); k++) {
            if (isChosen(shelf.codeAt(k), how, code, extra)) {
                many++;
            }
        }
        return many;
    }

    public int distance(int code, int other) throws IllegalArgumentException {
        demandCode(code);
        demandCode(other);
        return ruler.between(code, other);
    }

    public int nearest(int net, int code) throws IndexOutOfBoundsException, IllegalArgumentException {
        Shelf shelf = shelfOf(net);
        demandCode(code);
        int found = NONE;
        int best = LONGEST + 1;
        for (int k = 0; k < shelf.held(); k++) {
            int far = ruler.between(shelf.codeAt(k), code);
            if (far < best) {
                best = far;
                found = shelf.codeAt(k);
            }
        }
        return found;
    }

    public int state(int net, int code) throws IndexOutOfBoundsException, IllegalArgumentException {
        Net one = netOf(net);
        demandCode(code);
        return one.graph().stateOf(code, one.isLeast());
    }

    public int line(int net, int state, int letter) throws IndexOutOfBoundsException, IllegalArgumentException {
        Net one = netOf(net);
        if (state < 0 || state >= one.states()) {
            throw new IndexOutOfBoundsException("no such state");
        }
        demand(letter, 0, LETTERS - 1);
        return one.graph().lineFrom(state, letter, one.isLeast());
    }

    // ---- two nets

    public int parting(int net, int other) throws IndexOutOfBoundsException {
        Shelf shelf = shelfOf(net);
        Shelf second = shelfOf(other);
        int mine = shelf.leastCodeMissingIn(second);
        int its = second.leastCodeMissingIn(shelf);
        if (mine == NONE || its == NONE) {
            return Math.max(mine, its);
        }
        return Math.min(mine, its);
    }

    public int common(int net, int other, int how) throws IndexOutOfBoundsException, IllegalArgumentException {
        Shelf shelf = shelfOf(net);
        Shelf second = shelfOf(other);
        demand(how, 0, 3);
        return spareShelf.becomeMix(shelf, second, how);
    }

    public boolean alike(int net, int other) throws IndexOutOfBoundsException {
        Net one = netOf(net);
        Net second = netOf(other);
        return one.graph().isAlikeAsLeast(second.graph());
    }

    // ---- the text, the list, the pack, the cursor

    public String text() {
        StringBuilder out = new StringBuilder();
        strip.appendTo(out, 0, strip.held());
        return out.toString();
    }

    public int sign(int place) {
        return strip.letterAt(place);
    }

    public int falls(int net, int code) throws IndexOutOfBoundsException, IllegalArgumentException {
        Shelf shelf = shelfOf(net);
        demandCode(code);
        if (shelf.starting(code) == 0) {
            return NONE;
        }
        for (int many = Code.length(code) - 1; many >= 0; many--) {
            int tail = Code.tail(code, many);
            if (shelf.starting(tail) > 0) {
                return tail;
            }
        }
        return NONE;
    }

    public int matches(int net) throws IndexOutOfBoundsException {
        Shelf shelf = shelfOf(net);
        int many = 0;
        for (int last = 0; last < strip.held(); last++) {
            for (int length = Math.min(LONGEST, last + 1); length > 0; length--) {
                if (shelf.holds(strip.codeFrom(last + 1 - length, length))) {
                    many++;
                }
            }
        }
        return many;
    }

    public int match(int net, int nth, int what) throws IndexOutOfBoundsException, IllegalArgumentException {
        Shelf shelf = shelfOf(net);
        demandNotBelowZero(nth);
        demand(what, 0, 2);
        int left = nth;
        for (int last = 0; last < strip.held(); last++) {
            for (int length = Math.min(LONGEST, last + 1); length > 0; length--) {
                int code = strip.codeFrom(last + 1 - length, length);
                if (!shelf.holds(code)) {
                    continue;
                }
                if (left == 0) {
                    return what == 0 ? last + 1 - length : what == 1 ? last : code;
                }
                left--;
            }
        }
        return NONE;
    }

    public int longest(int net, int place) throws IndexOutOfBoundsException {
        Shelf shelf = shelfOf(net);
        if (place < 0 || place > strip.held()) {
            throw new IndexOutOfBoundsException("no such place in the text");
        }
        return longestAt(shelf, place);
    }

    public String cut(int net) throws IndexOutOfBoundsException {
        Shelf shelf = shelfOf(net);
        StringBuilder out = new StringBuilder();
        int place = 0;
        while (place < strip.held()) {
            if (place > 0) {
                out.append('|');
            }
            int length = longestAt(shelf, place);
            if (length > 0) {
                strip.appendTo(out, place, length);
            } else {
                out.append('(');
                strip.appendTo(out, place, 1);
                out.append(')');
            }
            place += Math.max(length, 1);
        }
        return out.toString();
    }

    public int listed(int nth) throws IllegalArgumentException {
        demandNotBelowZero(nth);
        return list.codeAt(nth);
    }

    public int ofList(int what) throws IllegalArgumentException {
        demand(what, 0, 3);
        switch (what) {
            case 0:
                return list.held();
            case 1:
                return list.held() == 0 ? EMPTY : list.codeAt(0);
            case 2:
                return list.held() == 0 ? EMPTY : list.codeAt(list.held() - 1);
            default:
                return list.allLetters();
        }
    }

    public int listBetween(int code, int other) throws IllegalArgumentException {
        demandCode(code);
        demandCode(other);
        int from = Code.seat(code);
        int to = Code.seat(other);
        return from > to ? WRONG : list.ahead(to) - list.ahead(from);
    }

    public int packed(int place) throws IndexOutOfBoundsException {
        if (place < 0 || place >= pack.held()) {
            throw new IndexOutOfBoundsException("no such place in the pack");
        }
        return pack.numberAt(place);
    }

    public int ofPack(int what) throws IllegalArgumentException {
        demand(what, 0, 2);
        switch (what) {
            case 0:
                return pack.held();
            case 1:
                return pack.firstOutOfPlace();
            default:
                return pack.nones();
        }
    }

    public int cursor(int what) throws IllegalArgumentException {
        demand(what, 0, 4);
        Shelf shelf = shelfOf(cursorNet);
        switch (what) {
            case 0:
                return cursorNet;
            case 1:
                return cursorCode;
            case 2:
                return Code.length(cursorCode);
            case 3:
                return shelf.holds(cursorCode) ? 1 : 0;
            default:
                return shelf.starting(cursorCode);
        }
    }

    // ---- all of it

    public boolean isSound() {
        if (!isWithinBounds()) {
            return false;
        }
        for (int net = 0; net < NETS; net++) {
            Graph graph = netOf(net).graph();
            boolean areStatesSound = graph.states(true) == graph.unlikeEnds(shelfOf(net));
            boolean isPackSound = isReadBack(net, false) && isReadBack(net, true);
            if (!areStatesSound || !isPackSound || !areRanksSound(net) || !areEditsSound(net)) {
                return false;
            }
        }
        return isPairSound(0, 1) && isPairSound(0, 2) && isPairSound(1, 2);
    }

    public long digest() {
        long d = 5305;
        for (int net = 0; net < NETS; net++) {
            d = digestOfWords(d, net);
            d = digestOfAnswers(d, net);
            d = digestOfText(d, net);
        }
        d = digestOfPairs(d);
        d = digestOfRest(d);
        d = folded(d, knocks);
        return folded(d, isSound() ? 1 : 0);
    }

    private static long folded(long d, long value) {
        return d * 31 + value;
    }

    private long digestOfWords(long start, int net) {
        long d = start;
        for (int what = 0; what <= 9; what++) {
            d = folded(d, ofNet(net, what));
        }
        Shelf shelf = shelfOf(net);
        for (int k = 0; k < shelf.held(); k++) {
            d = folded(d, shelf.codeAt(k));
        }
        return d;
    }

    private long digestOfAnswers(long start, int net) {
        long d = folded(start, letters(net, 0));
        d = folded(d, state(net, CODE_OF_A));
        d = folded(d, state(net, CODE_OF_AB));
        d = folded(d, state(net, CODE_OF_ABC));
        d = folded(d, count(net, 0, CODE_OF_A, 0));
        d = folded(d, count(net, 1, CODE_OF_A, 0));
        d = folded(d, count(net, 4, CODE_OF_A, 0));
        d = folded(d, count(net, 2, CODE_OF_AB, 1));
        d = folded(d, count(net, 3, CODE_OF_ABC, 2));
        d = folded(d, nearest(net, CODE_OF_ABC));
        return folded(d, falls(net, CODE_OF_AB));
    }

    private long digestOfText(long start, int net) {
        long d = folded(start, matches(net));
        for (int what = 0; what <= 2; what++) {
            d = folded(d, match(net, 0, what));
        }
        return folded(d, signsOfCut(shelfOf(net)));
    }

    private long digestOfPairs(long start) {
        long d = folded(start, parting(0, 1));
        d = folded(d, parting(0, 2));
        d = folded(d, parting(1, 2));
        for (int how = 0; how <= 3; how++) {
            d = folded(d, common(0, 1, how));
        }
        return d;
    }

    private long digestOfRest(long start) {
        long d = folded(start, strip.held());
        for (int what = 0; what <= 3; what++) {
            d = folded(d, ofList(what));
        }
        for (int what = 0; what <= 2; what++) {
            d = folded(d, ofPack(what));
        }
        for (int what = 0; what <= 4; what++) {
            d = folded(d, cursor(what));
        }
        return d;
    }

    private boolean isWithinBounds() {
        for (int net = 0; net < NETS; net++) {
            if (!shelfOf(net).isWithinBounds()) {
                return false;
            }
        }
        boolean isCursorWithin = cursorNet >= 0 && cursorNet < NETS && cursorCode >= 0 && cursorCode < CODES;
        return isCursorWithin && list.isWithinBounds() && strip.held() <= SIGNS;
    }

    private boolean areRanksSound(int net) {
        Shelf shelf = shelfOf(net);
        int seatBefore = NONE;
        for (int rank = 0; rank < shelf.held(); rank++) {
            int seat = Code.seat(shelf.codeAt(rank));
            if (seat <= seatBefore || shelf.ahead(seat) != rank) {
                return false;
            }
            seatBefore = seat;
        }
        return true;
    }

    private boolean isReadBack(int net, boolean isLeast) {
        Net one = netOf(net);
        sparePack.become(one.graph(), isLeast);
        return sparePack.readInto(spareShelf) == one.shelf().held() && spareShelf.isSame(one.shelf());
    }

    private boolean areEditsSound(int net) {
        Shelf shelf = shelfOf(net);
        for (int k = 0; k < shelf.held(); k++) {
            int code = shelf.codeAt(k);
            if (isChosen(code, 3, CODE_OF_ABC, 2) != ruler.between(CODE_OF_ABC, code) <= 2) {
                return false;
            }
        }
        return true;
    }

    private boolean isPairSound(int net, int other) {
        boolean isAlike = netOf(net).graph().isAlikeAsLeast(netOf(other).graph());
        return isAlike == (parting(net, other) == NONE);
    }

    // ---- what several calls share

    private Net netOf(int net) {
        if (net < 0 || net >= NETS) {
            throw new IndexOutOfBoundsException("no such net");
        }
        return nets[net];
    }

    private Shelf shelfOf(int net) {
        return netOf(net).shelf();
    }

    private static void demand(int number, int lowest, int highest) {
        if (number < lowest || number > highest) {
            throw new IllegalArgumentException("a number is out of its bounds");
        }
    }

    private static void demandCode(int code) {
        demand(code, 0, CODES - 1);
    }

    private static void demandPlaces(int set) {
        demand(set, 0, PLACE_SETS - 1);
    }

    private static void demandNotBelowZero(int number) {
        if (number < 0) {
            throw new IllegalArgumentException("a number is below zero");
        }
    }

    private static void demandChoice(int how, int code, int extra) {
        demand(how, 0, 4);
        demandCode(code);
        demandPlaces(extra);
    }

    private boolean isChosen(int word, int how, int code, int extra) {
        switch (how) {
            case 0:
                return Code.isStart(code, word);
            case 1:
                return Code.isTail(code, word);
            case 2:
                return Code.isSameButGaps(word, code, extra);
            case 3:
                return ruler.between(word, code) <= extra;
            default:
                return Code.isInside(code, word);
        }
    }

    private static boolean isIn(int set, int number) {
        return (set >> number & 1) == 1;
    }

    private static void appendLetters(StringBuilder out, int code) {
        int length = Code.length(code);
        for (int place = 0; place < length; place++) {
            out.append(Code.glyph(Code.letterAt(code, place)));
        }
    }

    private int longestAt(Shelf shelf, int place) {
        for (int length = Math.min(LONGEST, strip.held() - place); length >= 0; length--) {
            if (shelf.holds(strip.codeFrom(place, length))) {
                return length;
            }
        }
        return NONE;
    }

    /** Goes the way of cut() without its text, since what a run makes is counted. */
    private int signsOfCut(Shelf shelf) {
        int signs = 0;
        int place = 0;
        while (place < strip.held()) {
            int length = longestAt(shelf, place);
            signs += (place > 0 ? 1 : 0) + (length > 0 ? length : 3);
            place += Math.max(length, 1);
        }
        return signs;
    }

    /** Words as CODES: those with as many LETTERS have CODES in a row, in which a LETTER is two bits. */
    private static final class Code {
        static int length(int code) {
            int many = 0;
            while (many < LONGEST && code >= FIRST_CODES[many + 1]) {
                many++;
            }
            return many;
        }

        /** How many words are ahead of this one, of all that there can be: so ORDER is that of seats. */
        static int seat(int code) {
            int many = length(code);
            int bits = code - FIRST_CODES[many];
            int seat = 0;
            for (int k = 1; k <= many; k++) {
                int letter = bits >> 2 * (many - k) & 3;
                seat += 1 + letter * SPANS[k];
            }
            return seat;
        }

        /** How many words of all that there can be begin with this one. */
        static int span(int code) {
            return SPANS[length(code)];
        }

        static int longer(int code, int letter) {
            return LETTERS * code + letter + 1;
        }

        static int shorter(int code) {
            return code - 1 >> 2;
        }

        static int lastLetter(int code) {
            return code - 1 & 3;
        }

        static int letterAt(int code, int place) {
            int many = length(code);
            return code - FIRST_CODES[many] >> 2 * (many - 1 - place) & 3;
        }

        static int start(int code, int many) {
            int cut = code;
            for (int k = length(code); k > many; k--) {
                cut = shorter(cut);
            }
            return cut;
        }

        static int tail(int code, int many) {
            int whole = length(code);
            if (many < 0 || many > whole) {
                return code;
            }
            return FIRST_CODES[many] + (code - FIRST_CODES[whole] & (1 << 2 * many) - 1);
        }

        static int turned(int code) {
            int turned = 0;
            int rest = code;
            for (int k = length(code); k > 0; k--) {
                turned = longer(turned, lastLetter(rest));
                rest = shorter(rest);
            }
            return turned;
        }

        static boolean isStart(int start, int code) {
            int many = length(start);
            return many <= length(code) && start(code, many) == start;
        }

        static boolean isTail(int tail, int code) {
            int many = length(tail);
            int whole = length(code);
            int unlike = code - FIRST_CODES[whole] ^ tail - FIRST_CODES[many];
            return many <= whole && (unlike & (1 << 2 * many) - 1) == 0;
        }

        static boolean isInside(int part, int code) {
            int rest = code;
            for (int k = length(code); k > 0; k--) {
                if (isTail(part, rest)) {
                    return true;
                }
                rest = shorter(rest);
            }
            return part == 0;
        }

        static boolean isSameButGaps(int code, int other, int gaps) {
            int many = length(code);
            if (many != length(other)) {
                return false;
            }
            int unlike = code - FIRST_CODES[many] ^ other - FIRST_CODES[many];
            for (int place = 0; place < many; place++) {
                if (!isIn(gaps, place) && (unlike >> 2 * (many - 1 - place) & 3) != 0) {
                    return false;
                }
            }
            return true;
        }

        /** How many words there can be that are the same as this one but at the gaps. */
        static int waysToFill(int code, int gaps) {
            int many = length(code);
            int ways = 1;
            for (int place = 0; place < many; place++) {
                ways *= isIn(gaps, place) ? LETTERS : 1;
            }
            return ways;
        }

        /** The one of these words that has so many others of them ahead: gaps count up like digits. */
        static int filled(int code, int gaps, int nth) {
            int many = length(code);
            int bits = code - FIRST_CODES[many];
            int rest = nth;
            for (int shift = 0; shift < 2 * many; shift += 2) {
                if (isIn(gaps, many - 1 - shift / 2)) {
                    bits = bits & ~(3 << shift) | (rest & 3) << shift;
                    rest = rest >> 2;
                }
            }
            return FIRST_CODES[many] + bits;
        }

        static char glyph(int letter) {
            return (char) ('a' + letter);
        }
    }

    /** Tells the DISTANCE of words; its row is kept, since what a run makes is counted. */
    private static final class Ruler {
        private final int[] row = new int[LONGEST + 1];

        int between(int code, int other) {
            int many = Code.length(code);
            int across = Code.length(other);
            int down = code - FIRST_CODES[many];
            int along = other - FIRST_CODES[across];
            for (int k = 0; k <= across; k++) {
                row[k] = k;
            }
            for (int i = 1; i <= many; i++) {
                int letter = down >> 2 * (many - i) & 3;
                int diagonal = row[0];
                row[0] = i;
                for (int k = 1; k <= across; k++) {
                    int change = diagonal + (letter == (along >> 2 * (across - k) & 3) ? 0 : 1);
                    diagonal = row[k];
                    row[k] = Math.min(change, Math.min(row[k], row[k - 1]) + 1);
                }
            }
            return row[across];
        }
    }

    /** At most 120 words by ORDER, all unlike; beside the CODES stand their seats, by which they are found. */
    private static final class Shelf {
        private final int[] codes = new int[WORDS];
        private final int[] seats = new int[WORDS];
        private int held;
        /** Rises with every change, so that a Graph knows when it is old. */
        private int changes;

        int held() {
            return held;
        }

        boolean isFull() {
            return held >= WORDS;
        }

        int changes() {
            return changes;
        }

        int codeAt(int place) {
            return place < 0 || place >= held ? NONE : codes[place];
        }

        /** How many words have smaller seats. */
        int ahead(int seat) {
            int many = 0;
            for (int leap = 64; leap > 0; leap = leap / 2) {
                int tried = many + leap;
                if (tried <= held && seats[tried - 1] < seat) {
                    many = tried;
                }
            }
            return many;
        }

        boolean holds(int code) {
            return codeAt(ahead(Code.seat(code))) == code;
        }

        /** How many words begin with one; a CODE of too many LETTERS begins none. */
        int starting(int code) {
            if (code >= CODES) {
                return 0;
            }
            int seat = Code.seat(code);
            return ahead(seat + Code.span(code)) - ahead(seat);
        }

        /** Without words the empty text is a BEGINNING all the same. */
        int lettersBehind(int code) {
            if (code != 0 && starting(code) == 0) {
                return NONE;
            }
            int set = 0;
            for (int letter = 0; letter < LETTERS; letter++) {
                if (starting(Code.longer(code, letter)) > 0) {
                    set |= 1 << letter;
                }
            }
            return set;
        }

        boolean add(int code) {
            int seat = Code.seat(code);
            int place = ahead(seat);
            if (held >= WORDS || codeAt(place) == code) {
                return false;
            }
            for (int k = held; k > place; k--) {
                codes[k] = codes[k - 1];
                seats[k] = seats[k - 1];
            }
            codes[place] = code;
            seats[place] = seat;
            held++;
            changes++;
            return true;
        }

        boolean remove(int code) {
            if (!holds(code)) {
                return false;
            }
            removeSome(ahead(Code.seat(code)), 1);
            return true;
        }

        int removeStarting(int code) {
            int many = starting(code);
            removeSome(ahead(Code.seat(code)), many);
            return many;
        }

        private void removeSome(int from, int many) {
            for (int k = from; k + many < held; k++) {
                codes[k] = codes[k + many];
                seats[k] = seats[k + many];
            }
            held -= many;
            changes++;
        }

        int empty() {
            int before = held;
            held = 0;
            changes++;
            return before;
        }

        void become(Shelf other) {
            for (int k = 0; k < other.held; k++) {
                codes[k] = other.codes[k];
                seats[k] = other.seats[k];
            }
            held = other.held;
            changes++;
        }

        /** Holds what mix() asks for, and tells how many these are, though it holds no more than a net. */
        int becomeMix(Shelf one, Shelf other, int how) {
            empty();
            int many = 0;
            for (int k = 0; k < one.held; k++) {
                boolean isInBoth = other.holds(one.codes[k]);
                if (how == 0 || (how == 1) == isInBoth) {
                    add(one.codes[k]);
                    many++;
                }
            }
            for (int k = 0; k < other.held; k++) {
                if ((how == 0 || how == 3) && !one.holds(other.codes[k])) {
                    add(other.codes[k]);
                    many++;
                }
            }
            return many;
        }

        int leastCodeMissingIn(Shelf other) {
            int found = NONE;
            for (int k = 0; k < held; k++) {
                if (!other.holds(codes[k]) && (found == NONE || codes[k] < found)) {
                    found = codes[k];
                }
            }
            return found;
        }

        int mostLetters() {
            int most = NONE;
            for (int k = 0; k < held; k++) {
                most = Math.max(most, Code.length(codes[k]));
            }
            return most;
        }

        int fewestLetters() {
            int fewest = NONE;
            for (int k = 0; k < held; k++) {
                int many = Code.length(codes[k]);
                fewest = fewest == NONE ? many : Math.min(fewest, many);
            }
            return fewest;
        }

        int allLetters() {
            int all = 0;
            for (int k = 0; k < held; k++) {
                all += Code.length(codes[k]);
            }
            return all;
        }

        boolean isSame(Shelf other) {
            boolean isSame = held == other.held;
            for (int k = 0; k < held; k++) {
                isSame = isSame && codes[k] == other.codeAt(k);
            }
            return isSame;
        }

        boolean isWithinBounds() {
            boolean isWithin = held >= 0 && held <= WORDS;
            for (int k = 0; k < held; k++) {
                isWithin = isWithin && codeAt(k) >= 0 && codeAt(k) < CODES;
            }
            return isWithin;
        }
    }

    /** A shelf of words with its graph, which is made anew only when it is asked for and old. */
    private static final class Net {
        private final Shelf shelf = new Shelf();
        private final Graph graph = new Graph();
        private boolean isLeast;

        Shelf shelf() {
            return shelf;
        }

        boolean isLeast() {
            return isLeast;
        }

        void setLeast(boolean isLeast) {
            this.isLeast = isLeast;
        }

        Graph graph() {
            if (graph.isOld(shelf)) {
                graph.renew(shelf);
            }
            return graph;
        }

        int states() {
            return graph().states(isLeast);
        }
    }

    /**
     * The BEGINNINGS of a net, as nodes by rising CODES: that is how LOOSE STATES are numbered, and by
     * the first nodes of theirs the LEAST ones too.
     */
    private static final class Graph {
        private final Kinds kinds = new Kinds();
        private final int[] codes = new int[BEGINNINGS];
        private final boolean[] marks = new boolean[BEGINNINGS];
        /** For each node and LETTER the node of the BEGINNING with that LETTER behind, or NONE. */
        private final int[] children = new int[BEGINNINGS * LETTERS];
        /** The LEAST STATE of each node, and the first node of each LEAST STATE. */
        private final int[] leastOf = new int[BEGINNINGS];
        private final int[] firstNodes = new int[BEGINNINGS];
        private int held;
        private int leastStates;
        private int changesSeen = NONE;

        boolean isOld(Shelf shelf) {
            return changesSeen != shelf.changes();
        }

        void renew(Shelf shelf) {
            held = 0;
            addNode(0, shelf.codeAt(0) == 0);
            for (int many = 1; many <= LONGEST; many++) {
                addBeginnings(shelf, many);
            }
            linkChildren();
            joinAlike();
            numberLeast();
            changesSeen = shelf.changes();
        }

        private void addNode(int code, boolean isWord) {
            if (held < BEGINNINGS) {
                codes[held] = code;
                marks[held] = isWord;
                for (int letter = 0; letter < LETTERS; letter++) {
                    children[held * LETTERS + letter] = NONE;
                }
                held++;
            }
        }

        /**
         * Words by ORDER have their BEGINNINGS of one length by ORDER too, so like ones are neighbours;
         * one that is a word itself comes from that word first.
         */
        private void addBeginnings(Shelf shelf, int many) {
            int before = NONE;
            for (int k = 0; k < shelf.held(); k++) {
                int code = shelf.codeAt(k);
                int start = Code.start(code, many);
                if (Code.length(code) >= many && start != before) {
                    addNode(start, start == code);
                    before = start;
                }
            }
        }

        /** Nodes stand by rising CODES, so their parents do as well, and one way along is enough. */
        private void linkChildren() {
            int parent = 0;
            for (int node = 1; node < held; node++) {
                int code = Code.shorter(codes[node]);
                while (parent < node && codes[parent] != code) {
                    parent++;
                }
                children[parent * LETTERS + Code.lastLetter(codes[node])] = node;
            }
        }

        /** From the last node back, so that a node's children have their kinds before it. */
        private void joinAlike() {
            kinds.empty();
            for (int node = held - 1; node >= 0; node--) {
                long key = keyOf(node);
                int kind = kinds.first(key);
                if (kind == NONE) {
                    kind = kinds.add(key);
                }
                kinds.setOwner(kind, node);
                leastOf[node] = kind;
            }
        }

        private long keyOf(int node) {
            long key = marks[node] ? 1 : 0;
            for (int letter = 0; letter < LETTERS; letter++) {
                int child = children[node * LETTERS + letter];
                key = key * 1024 + (child == NONE ? 0 : leastOf[child] + 1);
            }
            return key;
        }

        /** Puts numbers of STATES in the place of kinds; the owner of a kind is its first node by now. */
        private void numberLeast() {
            leastStates = 0;
            for (int node = 0; node < held; node++) {
                int first = kinds.ownerOf(leastOf[node]);
                if (first >= 0 && first < node) {
                    leastOf[node] = leastOf[first];
                } else {
                    firstNodes[leastStates] = node;
                    leastOf[node] = leastStates;
                    leastStates++;
                }
            }
        }

        private int childOf(int node, int letter) {
            if (node < 0 || node >= held || letter < 0 || letter >= LETTERS) {
                return NONE;
            }
            return children[node * LETTERS + letter];
        }

        int states(boolean isLeast) {
            return isLeast ? leastStates : held;
        }

        private int nodeOf(int state, boolean isLeast) {
            if (state < 0 || state >= states(isLeast)) {
                return NONE;
            }
            return isLeast ? firstNodes[state] : state;
        }

        int markOf(int state, boolean isLeast) {
            int node = nodeOf(state, isLeast);
            return node != NONE && marks[node] ? 1 : 0;
        }

        int lineFrom(int state, int letter, boolean isLeast) {
            int child = childOf(nodeOf(state, isLeast), letter);
            return child != NONE && isLeast ? leastOf[child] : child;
        }

        int lines(boolean isLeast) {
            int many = 0;
            for (int state = 0; state < states(isLeast); state++) {
                for (int letter = 0; letter < LETTERS; letter++) {
                    many += lineFrom(state, letter, isLeast) == NONE ? 0 : 1;
                }
            }
            return many;
        }

        int stateOf(int code, boolean isLeast) {
            int node = 0;
            for (int place = 0; place < Code.length(code) && node != NONE; place++) {
                node = childOf(node, Code.letterAt(code, place));
            }
            return node != NONE && isLeast ? leastOf[node] : node;
        }

        boolean isAlikeAsLeast(Graph other) {
            boolean isAlike = leastStates == other.leastStates;
            for (int state = 0; state < leastStates && isAlike; state++) {
                isAlike = markOf(state, true) == other.markOf(state, true);
                for (int letter = 0; letter < LETTERS; letter++) {
                    isAlike = isAlike && lineFrom(state, letter, true) == other.lineFrom(state, letter, true);
                }
            }
            return isAlike;
        }

        /** Counts the unlike sets of ENDS by the words alone, to have it apart from the LEAST STATES. */
        int unlikeEnds(Shelf shelf) {
            kinds.empty();
            int many = 0;
            for (int node = 0; node < held; node++) {
                if (hasNewEnds(shelf, node)) {
                    many++;
                }
            }
            return many;
        }

        private boolean hasNewEnds(Shelf shelf, int node) {
            long print = printOfEnds(shelf, codes[node]);
            int kind = kinds.first(print);
            for (int k = 0; k < node && kind != NONE; k++) {
                int owner = kinds.ownerOf(kind);
                if (owner >= 0 && owner < node && haveSameEnds(shelf, codes[owner], codes[node])) {
                    return false;
                }
                kind = kinds.after(kind);
            }
            kinds.setOwner(kinds.add(print), node);
            return true;
        }

        /** A number that is the same for the same ENDS, and seldom for others. */
        private static long printOfEnds(Shelf shelf, int code) {
            int length = Code.length(code);
            int from = shelf.ahead(Code.seat(code));
            int many = shelf.starting(code);
            long print = many;
            for (int k = from; k < from + many; k++) {
                int word = shelf.codeAt(k);
                print = print * 31 + Code.tail(word, Code.length(word) - length);
            }
            return print;
        }

        private static boolean haveSameEnds(Shelf shelf, int code, int other) {
            int many = shelf.starting(code);
            if (many != shelf.starting(other)) {
                return false;
            }
            int from = shelf.ahead(Code.seat(code));
            int fromOther = shelf.ahead(Code.seat(other));
            for (int k = 0; k < many; k++) {
                int word = shelf.codeAt(from + k);
                int second = shelf.codeAt(fromOther + k);
                int end = Code.tail(word, Code.length(word) - Code.length(code));
                if (end != Code.tail(second, Code.length(second) - Code.length(other))) {
                    return false;
                }
            }
            return true;
        }
    }

    /** Numbers the unlike keys that it is told, in chains, so that few are looked at for each. */
    private static final class Kinds {
        private static final int CHAINS = 256;
        private final int[] heads = new int[CHAINS];
        private final int[] nexts = new int[BEGINNINGS];
        private final int[] owners = new int[BEGINNINGS];
        private final long[] keys = new long[BEGINNINGS];
        private int made;

        void empty() {
            made = 0;
            for (int k = 0; k < CHAINS; k++) {
                heads[k] = NONE;
            }
        }

        private int chainOf(long key) {
            return (int) ((key ^ key >>> 10 ^ key >>> 20 ^ key >>> 30) & CHAINS - 1);
        }

        int first(long key) {
            return withKey(heads[chainOf(key)], key);
        }

        int after(int kind) {
            return kind < 0 || kind >= made ? NONE : withKey(nexts[kind], keys[kind]);
        }

        private int withKey(int start, long key) {
            int kind = start;
            for (int k = 0; k < made && kind >= 0 && kind < made; k++) {
                if (keys[kind] == key) {
                    return kind;
                }
                kind = nexts[kind];
            }
            return NONE;
        }

        int add(long key) {
            if (made >= BEGINNINGS) {
                return NONE;
            }
            int chain = chainOf(key);
            int kind = made;
            keys[kind] = key;
            nexts[kind] = heads[chain];
            heads[chain] = kind;
            made++;
            return kind;
        }

        int ownerOf(int kind) {
            return kind < 0 || kind >= made ? NONE : owners[kind];
        }

        void setOwner(int kind, int owner) {
            if (kind >= 0 && kind < made) {
                owners[kind] = owner;
            }
        }
    }

    /** The numbers of a packed net, STATE by STATE. */
    private static final class Pack {
        private final int[] numbers = new int[BEGINNINGS * NUMBERS_OF_STATE];
        private int held;

        int held() {
            return held;
        }

        int numberAt(int place) {
            return place < 0 || place >= held ? NONE : numbers[place];
        }

        void write(int place, int number) {
            if (place >= 0 && place < held) {
                numbers[place] = number;
            }
        }

        void become(Graph graph, boolean isLeast) {
            held = 0;
            for (int state = 0; state < graph.states(isLeast); state++) {
                append(graph.markOf(state, isLeast));
                for (int letter = 0; letter < LETTERS; letter++) {
                    append(graph.lineFrom(state, letter, isLeast));
                }
            }
        }

        private void append(int number) {
            if (held < numbers.length) {
                numbers[held] = number;
                held++;
            }
        }

        int nones() {
            int many = 0;
            for (int place = 0; place < held; place++) {
                if (numbers[place] == NONE) {
                    many++;
                }
            }
            return many;
        }

        int firstOutOfPlace() {
            int states = held / NUMBERS_OF_STATE;
            for (int place = 0; place < held; place++) {
                boolean isMark = place % NUMBERS_OF_STATE == 0;
                int lowest = isMark ? 0 : NONE;
                int highest = isMark ? 1 : states - 1;
                if (numbers[place] < lowest || numbers[place] > highest) {
                    return place;
                }
            }
            return NONE;
        }

        /** Puts the words into a shelf and tells how many they are, or the FAULT, with which it is no good. */
        int readInto(Shelf shelf) {
            int place = firstOutOfPlace();
            if (place != NONE) {
                return OUT_OF_PLACE - place;
            }
            shelf.empty();
            int many = wordsFrom(this, shelf, 0, 0, 0);
            return many > WORDS ? TOO_MANY : many;
        }

        /** The depth is that of the text, and one of 7 LETTERS ends it all: so it ends for loops too. */
        private static int wordsFrom(Pack pack, Shelf shelf, int state, int code, int depth) {
            if (depth > LONGEST) {
                return TOO_LONG;
            }
            int many = 0;
            if (pack.numberAt(state * NUMBERS_OF_STATE) == 1) {
                shelf.add(code);
                many++;
            }
            for (int letter = 0; letter < LETTERS; letter++) {
                int further = pack.numberAt(state * NUMBERS_OF_STATE + 1 + letter);
                if (further != NONE) {
                    int more = wordsFrom(pack, shelf, further, Code.longer(code, letter), depth + 1);
                    if (more < 0) {
                        return more;
                    }
                    many += more;
                }
            }
            return many;
        }
    }

    /** The LETTERS of the text. */
    private static final class Strip {
        private final int[] letters = new int[SIGNS];
        private int held;

        int held() {
            return held;
        }

        int letterAt(int place) {
            return place < 0 || place >= held ? EMPTY : letters[place];
        }

        boolean hasRoomFor(int code) {
            return held + Code.length(code) <= SIGNS;
        }

        void append(int code) {
            int many = Code.length(code);
            for (int place = 0; place < many && held < SIGNS; place++) {
                letters[held] = Code.letterAt(code, place);
                held++;
            }
        }

        int empty() {
            int before = held;
            held = 0;
            return before;
        }

        int codeFrom(int place, int length) {
            int code = 0;
            for (int k = place; k < place + length; k++) {
                code = Code.longer(code, letterAt(k));
            }
            return code;
        }

        void appendTo(StringBuilder out, int from, int many) {
            for (int k = from; k < from + many; k++) {
                out.append(Code.glyph(letterAt(k)));
            }
        }
    }
}
