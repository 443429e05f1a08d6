/** Promises 25 to 35, 37 to 40 and 46: what is asked of one net. */
public final class AsksTest {
    private static final Check CHECK = new Check();

    public static void main(String[] args) {
        has();
        ofNet();
        below();
        rank();
        atRank();
        pick();
        next();
        letters();
        firstLetter();
        lettersBetween();
        words();
        distance();
        nearest();
        state();
        line();
        falls();
        CHECK.end();
    }

    private static void netAndCode(String what, Wordnet x, Check.ByNumber byNet, Check.ByNumber byCode) {
        CHECK.noSuchNet(what, x, byNet);
        CHECK.onlyCodes(what, x, byCode);
    }

    private static void has() {
        Wordnet x = Check.with("", "abc");
        CHECK.same("has", x.has(0, 27), true);
        CHECK.same("has the empty one", x.has(0, 0), true);
        CHECK.same("has a beginning", x.has(0, 6), false);
        CHECK.same("another net has", x.has(1, 27), false);
        CHECK.same("has the empty one without words", x.has(1, 0), false);
        netAndCode("has", x, net -> x.has(net, 0), code -> x.has(0, code));
        CHECK.outOfBounds("has of no net and no code", x, () -> x.has(3, -1));
    }

    private static void ofNet(Wordnet x, int... due) {
        for (int what = 0; what <= 9; what++) {
            CHECK.same("ofNet " + what, x.ofNet(0, what), due[what]);
        }
    }

    private static void ofNet() {
        Wordnet x = Check.with("ab", "bb", "cab", "cbb");
        ofNet(x, 4, 10, 9, 0, 4, 10, 3, 2, Check.code("ab"), Check.code("cbb"));
        x.least(0);
        ofNet(x, 4, 4, 6, 1, 4, 10, 3, 2, Check.code("ab"), Check.code("cbb"));
        x.clear(0);
        x.tell(0, 0);
        ofNet(x, 1, 1, 0, 1, 1, 1, 0, 0, 0, 0);
        CHECK.noSuchNet("ofNet", x, net -> x.ofNet(net, 0));
        CHECK.onlyFrom("ofNet", x, 0, 9, what -> x.ofNet(0, what));
        CHECK.outOfBounds("ofNet of no net and no what", x, () -> x.ofNet(3, 10));
    }

    private static void below() {
        Wordnet x = Check.with("", "a", "ab", "abc", "b");
        CHECK.same("below a", x.below(0, 1), 3);
        CHECK.same("below the empty one", x.below(0, 0), 5);
        CHECK.same("below a word itself", x.below(0, 27), 1);
        CHECK.same("below none", x.below(0, 3), 0);
        CHECK.same("below without words", x.below(1, 0), 0);
        for (String word : new String[] {"aaaaaa", "addddd", "aadddd", "aaaddd", "abdddd", "dddddd"}) {
            Wordnet y = Check.with(word);
            for (int many = 0; many <= 6; many++) {
                CHECK.same("below " + word.substring(0, many), y.below(0, Check.code(word.substring(0, many))), 1);
            }
            CHECK.same("below, one beside " + word, y.below(0, Check.code(word.substring(0, 5) + "b")), 0);
        }
        netAndCode("below", x, net -> x.below(net, 0), code -> x.below(0, code));
        CHECK.outOfBounds("below of no net and no code", x, () -> x.below(-1, -1));
    }

    private static void rank() {
        Wordnet x = Check.with("", "a", "ab", "b", "dddddd");
        String[] asked = {"", "a", "aa", "ab", "abc", "b", "ba", "dddddd", "dddddc"};
        int[] due = {0, 1, 2, 2, 3, 3, 4, 4, 4};
        for (int k = 0; k < asked.length; k++) {
            CHECK.same("rank of " + asked[k], x.rank(0, Check.code(asked[k])), due[k]);
        }
        CHECK.same("rank without words", x.rank(1, 5460), 0);
        netAndCode("rank", x, net -> x.rank(net, 0), code -> x.rank(0, code));
        CHECK.outOfBounds("rank of no net and no code", x, () -> x.rank(3, 5461));
    }

    private static void atRank() {
        Wordnet x = Check.with("b", "ab", "a", "");
        int[] due = {0, 1, 6, 2, -1};
        for (int rank = 0; rank < due.length; rank++) {
            CHECK.same("atRank " + rank, x.atRank(0, rank), due[rank]);
        }
        CHECK.same("atRank far", x.atRank(0, Integer.MAX_VALUE), -1);
        CHECK.same("atRank without words", x.atRank(1, 0), -1);
        CHECK.noSuchNet("atRank", x, net -> x.atRank(net, 0));
        CHECK.badArgument("atRank -1", x, () -> x.atRank(0, -1));
        CHECK.badArgument("atRank far below", x, () -> x.atRank(0, Integer.MIN_VALUE));
        CHECK.outOfBounds("atRank of no net and no rank", x, () -> x.atRank(3, -1));
    }

    private static void pick() {
        Wordnet x = Check.with("a", "b", "c");
        int[] numbers = {0, 1, 2, 3, 4, -1, -3, -4, Integer.MAX_VALUE, Integer.MIN_VALUE};
        int[] due = {1, 2, 3, 1, 2, 3, 1, 3, 2, 2};
        for (int k = 0; k < numbers.length; k++) {
            CHECK.same("pick " + numbers[k], x.pick(0, numbers[k]), due[k]);
        }
        CHECK.same("pick without words", x.pick(1, 0), -1);
        CHECK.noSuchNet("pick", x, net -> x.pick(net, 0));
    }

    private static void next(Wordnet x, String word, int... due) {
        for (int way = 0; way <= 3; way++) {
            CHECK.same("next of " + word + ", " + way, x.next(0, Check.code(word), way), due[way]);
        }
    }

    private static void next() {
        Wordnet x = Check.with("a", "ab", "c");
        next(x, "ab", 6, 1, 6, 3);
        next(x, "aa", 1, 1, 6, 6);
        next(x, "abc", 6, 6, 3, 3);
        next(x, "", -1, -1, 1, 1);
        next(x, "a", 1, -1, 1, 6);
        next(x, "c", 3, 6, 3, -1);
        next(x, "dddddd", 3, 3, -1, -1);
        CHECK.same("next without words", x.next(1, 0, 2), -1);
        netAndCode("next", x, net -> x.next(net, 0, 0), code -> x.next(0, code, 0));
        CHECK.onlyFrom("next way", x, 0, 3, way -> x.next(0, 0, way));
        CHECK.outOfBounds("next of no net and no way", x, () -> x.next(3, 0, 4));
    }

    private static void letters() {
        Wordnet x = Check.with("a", "abc", "abd", "acdabc", "d");
        CHECK.same("letters of the empty one", x.letters(0, 0), 9);
        CHECK.same("letters of a", x.letters(0, 1), 6);
        CHECK.same("letters of ab", x.letters(0, 6), 12);
        CHECK.same("letters of a word that ends there", x.letters(0, 4), 0);
        CHECK.same("letters of six", x.letters(0, Check.code("acdabc")), 0);
        CHECK.same("letters of no beginning", x.letters(0, 2), -1);
        CHECK.same("letters of no beginning of six", x.letters(0, 5460), -1);
        CHECK.same("letters of the empty one without words", x.letters(1, 0), 0);
        netAndCode("letters", x, net -> x.letters(net, 0), code -> x.letters(0, code));
        CHECK.outOfBounds("letters of no net and no code", x, () -> x.letters(3, -1));
    }

    private static void firstLetter() {
        Wordnet x = Check.with("b", "bc", "d", "cab");
        CHECK.same("firstLetter", x.firstLetter(0, 0, false), 1);
        CHECK.same("the last letter", x.firstLetter(0, 0, true), 3);
        CHECK.same("the only letter", x.firstLetter(0, 2, false), 2);
        CHECK.same("the only letter as the last one", x.firstLetter(0, 2, true), 2);
        CHECK.same("a as the last letter", x.firstLetter(0, 3, true), 0);
        CHECK.same("firstLetter of none", x.firstLetter(0, 4, false), -9);
        CHECK.same("firstLetter of no beginning", x.firstLetter(0, 1, true), -9);
        CHECK.same("firstLetter without words", x.firstLetter(1, 0, false), -9);
        netAndCode("firstLetter", x, net -> x.firstLetter(net, 0, true), code -> x.firstLetter(0, code, false));
        CHECK.outOfBounds("firstLetter of no net and no code", x, () -> x.firstLetter(3, -1, true));
    }

    private static void lettersBetween() {
        Wordnet x = Check.with("a", "b", "d");
        CHECK.same("lettersBetween 0 and 4", x.lettersBetween(0, 0, 0, 4), 3);
        CHECK.same("lettersBetween 1 and 3", x.lettersBetween(0, 0, 1, 3), 1);
        CHECK.same("lettersBetween 3 and 4", x.lettersBetween(0, 0, 3, 4), 1);
        CHECK.same("lettersBetween 2 and 3", x.lettersBetween(0, 0, 2, 3), 0);
        CHECK.same("lettersBetween 2 and 2", x.lettersBetween(0, 0, 2, 2), 0);
        CHECK.same("lettersBetween 4 and 4", x.lettersBetween(0, 0, 4, 4), 0);
        CHECK.same("lettersBetween 2 and 1", x.lettersBetween(0, 0, 2, 1), -7);
        CHECK.same("lettersBetween of no beginning", x.lettersBetween(0, 3, 0, 4), 0);
        CHECK.same("lettersBetween of no beginning behind", x.lettersBetween(0, 3, 4, 0), -7);
        netAndCode("lettersBetween", x, net -> x.lettersBetween(net, 0, 0, 4), code -> x.lettersBetween(0, code, 0, 4));
        CHECK.onlyFrom("lettersBetween from", x, 0, 4, from -> x.lettersBetween(0, 0, from, 4));
        CHECK.onlyFrom("lettersBetween to", x, 0, 4, to -> x.lettersBetween(0, 0, 0, to));
        CHECK.badArgument("lettersBetween behind and too far", x, () -> x.lettersBetween(0, 0, 5, 0));
        CHECK.outOfBounds("lettersBetween of no net and no from", x, () -> x.lettersBetween(3, 0, 5, 0));
    }

    private static void words() {
        Wordnet x = Check.with("", "a", "ab", "b");
        CHECK.same("words", x.words(0, 0, 20), "- a ab b");
        CHECK.same("words from 1", x.words(0, 1, 2), "a ab");
        CHECK.same("words from 3", x.words(0, 3, 2), "b");
        CHECK.same("words from 4", x.words(0, 4, 1), "");
        CHECK.same("words from far", x.words(0, Integer.MAX_VALUE, 20), "");
        CHECK.same("words without words", x.words(1, 0, 20), "");
        CHECK.same("twenty words", WordsInAndOutTest.full().words(0, 100, 20).split(" ").length, 20);
        CHECK.noSuchNet("words", x, net -> x.words(net, 0, 1));
        CHECK.badArgument("words from -1", x, () -> x.words(0, -1, 1));
        CHECK.onlyFrom("words many", x, 1, 20, many -> x.words(0, 0, many));
        CHECK.outOfBounds("words of no net and no many", x, () -> x.words(3, -1, 0));
    }

    private static void distance(Wordnet x, String one, String other, int due) {
        CHECK.same("distance of " + one + " and " + other, x.distance(Check.code(one), Check.code(other)), due);
        CHECK.same("distance of " + other + " and " + one, x.distance(Check.code(other), Check.code(one)), due);
    }

    private static void distance() {
        Wordnet x = new Wordnet();
        distance(x, "", "", 0);
        distance(x, "", "abc", 3);
        distance(x, "abc", "abc", 0);
        distance(x, "abc", "adc", 1);
        distance(x, "abc", "bc", 1);
        distance(x, "abc", "abac", 1);
        distance(x, "ab", "ba", 2);
        distance(x, "aaaaaa", "bbbbbb", 6);
        distance(x, "abcdab", "bcdaba", 2);
        distance(x, "abcabc", "cba", 4);
        CHECK.onlyCodes("distance", x, code -> x.distance(code, 0));
        CHECK.onlyCodes("distance of other", x, other -> x.distance(0, other));
    }

    private static void nearest() {
        Wordnet x = Check.with("dd", "abd", "bbc", "ab", "abcc");
        CHECK.same("nearest of several", x.nearest(0, Check.code("abc")), Check.code("ab"));
        CHECK.same("nearest itself", x.nearest(0, Check.code("abd")), Check.code("abd"));
        CHECK.same("nearest of dddddd", x.nearest(0, 5460), Check.code("dd"));
        CHECK.same("nearest of the empty one", x.nearest(0, 0), Check.code("ab"));
        CHECK.same("nearest without words", x.nearest(1, 0), -1);
        x.tell(1, 5460);
        CHECK.same("nearest, six away", x.nearest(1, Check.code("aaaaaa")), 5460);
        netAndCode("nearest", x, net -> x.nearest(net, 0), code -> x.nearest(0, code));
        CHECK.outOfBounds("nearest of no net and no code", x, () -> x.nearest(3, -1));
    }

    private static String states(Wordnet x, String... words) {
        StringBuilder out = new StringBuilder();
        for (String word : words) {
            out.append(out.length() == 0 ? "" : " ").append(x.state(0, Check.code(word)));
        }
        return out.toString();
    }

    /** A FIRST BEGINNING has the fewest LETTERS: so c, not ab, tells the number of the words' STATE. */
    private static void state() {
        Wordnet x = Check.with("ab", "bb", "c");
        String[] asked = {"", "a", "b", "c", "ab", "bb", "d", "ba", "dddddd"};
        CHECK.same("states", states(x, asked), "0 1 2 3 4 5 -1 -1 -1");
        x.least(0);
        CHECK.same("least states", states(x, asked), "0 1 1 2 2 2 -1 -1 -1");
        CHECK.same("state without words", x.state(1, 0), 0);
        CHECK.same("state of none without words", x.state(1, 1), -1);
        netAndCode("state", x, net -> x.state(net, 0), code -> x.state(0, code));
        CHECK.outOfBounds("state of no net and no code", x, () -> x.state(3, -1));
        Wordnet y = Check.with("aab", "cab", "cb", "d", "daab");
        y.least(0);
        CHECK.same("least states by first beginnings", y.state(0, Check.code("c")) + " " + y.state(0, Check.code("caa"))
                + " " + y.state(0, Check.code("daa")) + " " + y.state(0, Check.code("daab")), "2 -1 4 5");
    }

    private static void line() {
        Wordnet x = Check.with("ab", "bb", "c");
        CHECK.same("line", x.line(0, 0, 1), 2);
        CHECK.same("line on", x.line(0, 2, 1), 5);
        CHECK.same("no line", x.line(0, 2, 0), -1);
        CHECK.outOfBounds("line of state 6", x, () -> x.line(0, 6, 0));
        x.least(0);
        CHECK.same("least line", x.line(0, 0, 1), 1);
        CHECK.same("least line on", x.line(0, 1, 1), 2);
        CHECK.same("no least line", x.line(0, 2, 3), -1);
        CHECK.noSuchNet("line", x, net -> x.line(net, 0, 0));
        for (int state : new int[] {-1, 3, 5, Integer.MIN_VALUE, Integer.MAX_VALUE}) {
            CHECK.outOfBounds("line of least state " + state, x, () -> x.line(0, state, 0));
        }
        CHECK.onlyFrom("line letter", x, 0, 3, letter -> x.line(0, 0, letter));
        CHECK.outOfBounds("line of no state and no letter", x, () -> x.line(0, 3, 4));
        CHECK.same("line without words", x.line(1, 0, 0), -1);
    }

    private static void falls() {
        Wordnet x = Check.with("abab", "bac", "c");
        CHECK.same("falls of abab", x.falls(0, Check.code("abab")), Check.code("ab"));
        CHECK.same("falls of aba", x.falls(0, Check.code("aba")), Check.code("ba"));
        CHECK.same("falls of ab", x.falls(0, 6), 2);
        CHECK.same("falls of a", x.falls(0, 1), 0);
        CHECK.same("falls of bac", x.falls(0, Check.code("bac")), 3);
        CHECK.same("falls of the empty one", x.falls(0, 0), -1);
        CHECK.same("falls of no beginning", x.falls(0, Check.code("cab")), -1);
        CHECK.same("falls without words", x.falls(1, 1), -1);
        netAndCode("falls", x, net -> x.falls(net, 0), code -> x.falls(0, code));
        CHECK.outOfBounds("falls of no net and no code", x, () -> x.falls(3, -1));
        Wordnet y = Check.with("aaaaaa");
        CHECK.same("falls of aaaaaa", y.falls(0, Check.code("aaaaaa")), Check.code("aaaaa"));
    }
}
