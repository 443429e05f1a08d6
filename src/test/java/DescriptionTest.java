import java.util.ArrayList;
import java.util.Collections;
import java.util.List;

/** The sentences of the document's "Description" that name a bound, an edge or an order: a test for each. */
public final class DescriptionTest {
    private static final Check CHECK = new Check();

    public static void main(String[] args) {
        whatComesToNothingChangesNothing();
        faultsChangeNothing();
        exceptionsGoAhead();
        setsAreSums();
        codes();
        eachCodeIsThatOfOneWord();
        order();
        orderOfMany();
        distance();
        threeNets();
        looseAndWithoutWordsAtFirst();
        beginnings();
        ends();
        looseStates();
        leastStates();
        firstBeginningHasFewestLetters();
        firstBeginningIsAhead();
        statesAreNumberedByLettersThenOrder();
        marks();
        withoutWords();
        lines();
        staysLooseOrLeast();
        fits();
        extraThatDoesNotMatter();
        gaps();
        distanceOrLess();
        list();
        pack();
        outOfPlace();
        outOfPlaceInTheLargestPack();
        firstFault();
        longTextBehindManyWords();
        sevenLetters();
        manyWords();
        textsThatAreRead();
        text();
        matches();
        fall();
        cut();
        cursor();
        textOfTheCursorMayBecomeNone();
        lastCall();
        CHECK.end();
    }

    private interface Call {
        Object on(Wordnet x);
    }

    private static int code(String word) {
        return Check.code(word);
    }

    // ---- EMPTY, VOID, WRONG: "then nothing is changed; exceptions go ahead of these numbers"

    private static void comesTo(int due, String what, Call call) {
        Wordnet x = Check.with("ab", "b");
        Check.tell(x, 1, "cc");
        x.say(code("ab"));
        x.enter(1);
        CHECK.unchanged(what + " that comes to nothing", x, due, () -> call.on(x));
    }

    private static void whatComesToNothingChangesNothing() {
        comesTo(-9, "listPoll of the first", x -> x.listPoll(false));
        comesTo(-9, "listPoll of the last", x -> x.listPoll(true));
        comesTo(-9, "unpack", x -> x.unpack(1));
        comesTo(-9, "back", Wordnet::back);
        comesTo(-9, "sign behind the text", x -> x.sign(2));
        comesTo(-9, "sign ahead of the text", x -> x.sign(-1));
        comesTo(-9, "firstLetter of no beginning", x -> x.firstLetter(0, 3, false));
        comesTo(-9, "firstLetter of a whole word", x -> x.firstLetter(0, code("ab"), true));
        comesTo(-9, "ofList of the first", x -> x.ofList(1));
        comesTo(-9, "ofList of the last", x -> x.ofList(2));
        comesTo(-8, "step nowhere", x -> x.step(-1));
        comesTo(-7, "lettersBetween", x -> x.lettersBetween(0, 0, 1, 0));
        comesTo(-7, "listBetween", x -> x.listBetween(2, 1));
        comesTo(-1, "step to no beginning", x -> x.step(0));
    }

    private static void fault(int due, int place, int number) {
        Wordnet x = Check.with("ab");
        Check.tell(x, 1, "d");
        x.pack(0);
        x.poke(place, number);
        CHECK.unchanged("fault by " + number + " at " + place, x, due, () -> x.unpack(1));
    }

    private static void faultsChangeNothing() {
        fault(-100, 0, 2);
        fault(-114, 14, 3);
        fault(-6, 1, 0);
        Wordnet x = Check.with("aaaa");
        x.pack(0);
        for (int place = 1; place < 20; place++) {
            if (place % 5 != 0) {
                x.poke(place, place / 5 + 1);
            }
        }
        CHECK.unchanged("fault by 256 words", x, -5, () -> x.unpack(0));
    }

    private static void exceptionsGoAhead() {
        Wordnet x = new Wordnet();
        CHECK.outOfBounds("an exception ahead of EMPTY, unpack", x, () -> x.unpack(3));
        CHECK.outOfBounds("an exception ahead of EMPTY, firstLetter", x, () -> x.firstLetter(-1, 1, true));
        CHECK.badArgument("an exception ahead of EMPTY, firstLetter of no code", x, () -> x.firstLetter(0, 5461, true));
        CHECK.badArgument("an exception ahead of EMPTY, ofList", x, () -> x.ofList(4));
        CHECK.badArgument("an exception ahead of VOID", x, () -> x.step(-2));
        CHECK.badArgument("an exception ahead of WRONG, from", x, () -> x.lettersBetween(0, 0, 5, 0));
        CHECK.badArgument("an exception ahead of WRONG, to", x, () -> x.lettersBetween(0, 0, 4, -1));
        CHECK.outOfBounds("an exception ahead of WRONG, net", x, () -> x.lettersBetween(3, 0, 4, 0));
        CHECK.badArgument("an exception ahead of WRONG, the first word", x, () -> x.listBetween(5461, 0));
        CHECK.badArgument("an exception ahead of WRONG, the other word", x, () -> x.listBetween(1, -1));
        CHECK.outOfBounds("an exception ahead of NONE, line", x, () -> x.line(0, 1, 0));
        CHECK.badArgument("an exception ahead of NONE, listed", x, () -> x.listed(-1));
    }

    private static void setsAreSums() {
        for (int set = 0; set < 16; set++) {
            Wordnet x = new Wordnet();
            Wordnet y = new Wordnet();
            int many = 1;
            for (int letter = 0; letter < 4; letter++) {
                if ((set >> letter) % 2 == 1) {
                    x.tell(0, letter + 1);
                    many *= 4;
                }
            }
            CHECK.same("the set of letters " + set, x.letters(0, 0), set);
            CHECK.same("the set of places " + set, y.fill(0, code("abcd"), set), Math.min(many, 120));
        }
    }

    // ---- 1. Words

    private static void codes() {
        Wordnet x = new Wordnet();
        String[] words = {"-", "a", "d", "aa", "ab", "ba", "dddddd"};
        int[] codes = {0, 1, 4, 5, 6, 9, 5460};
        for (int k = 0; k < codes.length; k++) {
            x.clear(0);
            x.tell(0, codes[k]);
            CHECK.same("the word of code " + codes[k], x.words(0, 0, 1), words[k]);
        }
    }

    private static void eachCodeIsThatOfOneWord() {
        Wordnet x = new Wordnet();
        for (int code = 0; code <= 5460; code++) {
            if (code % 100 == 0) {
                x = new Wordnet();
            }
            x.tell(0, code);
            CHECK.same("the word of code " + code, x.words(0, 0, 1), Check.word(code));
            CHECK.same("the letters of code " + code, x.ofNet(0, 6), code == 0 ? 0 : Check.word(code).length());
            x.clear(0);
        }
    }

    private static void order() {
        String[] rising = {"", "a", "ab", "b"};
        Wordnet x = Check.with("b", "ab", "", "a");
        CHECK.same("the order", Check.all(x, 0), "- a ab b");
        for (int k = 0; k < rising.length; k++) {
            CHECK.same("the rank of " + rising[k], x.rank(0, code(rising[k])), k);
        }
        Wordnet y = Check.with("abcdaa", "abcd", "abcc", "abcdab", "abd");
        CHECK.same("the first place that differs, and beginnings", Check.all(y, 0), "abcc abcd abcdaa abcdab abd");
    }

    private static void orderOfMany() {
        for (int step : new int[] {1, 7, 64, 341, 1366, 5459}) {
            Wordnet x = new Wordnet();
            x.sow(0, 77, step, 60);
            x.sow(0, (77 + 60 * step) % 5461, step, 60);
            List<String> due = new ArrayList<>();
            for (int k = 0; k < 120; k++) {
                due.add(Check.word((77 + k * step) % 5461));
            }
            Collections.sort(due);
            CHECK.same("the order of words told by step " + step, Check.all(x, 0), String.join(" ", due));
        }
    }

    private static void distance() {
        Wordnet x = new Wordnet();
        String[][] pairs = {{"abc", "abcd", "1"}, {"abc", "dabc", "1"}, {"abc", "adbc", "1"}, {"abc", "ab", "1"},
            {"abc", "bc", "1"}, {"abc", "dbc", "1"}, {"abc", "abd", "1"}, {"", "", "0"}, {"", "dddddd", "6"},
            {"abcdab", "dabcda", "2"}, {"aaabbb", "bbbaaa", "6"}, {"abcdab", "badcba", "4"}};
        for (String[] pair : pairs) {
            int due = Integer.parseInt(pair[2]);
            CHECK.same("distance of " + pair[0] + " and " + pair[1], x.distance(code(pair[0]), code(pair[1])), due);
            CHECK.same("distance of " + pair[1] + " and " + pair[0], x.distance(code(pair[1]), code(pair[0])), due);
        }
    }

    // ---- 2. Nets

    private static void threeNets() {
        Wordnet x = new Wordnet();
        for (int net = 0; net < 3; net++) {
            x.tell(net, net + 1);
        }
        CHECK.same("each net has its own", Check.all(x, 0) + Check.all(x, 1) + Check.all(x, 2), "abc");
    }

    private static void looseAndWithoutWordsAtFirst() {
        Wordnet x = new Wordnet();
        for (int net = 0; net < 3; net++) {
            CHECK.same("words of net " + net + " at first", x.ofNet(net, 0), 0);
            CHECK.same("net " + net + " is loose at first", x.ofNet(net, 3), 0);
        }
    }

    private static void beginnings() {
        Wordnet x = Check.with("abc", "b");
        for (String beginning : new String[] {"", "a", "ab", "abc", "b"}) {
            CHECK.same("a beginning: " + beginning, x.letters(0, code(beginning)) >= 0, true);
        }
        for (String none : new String[] {"c", "bc", "abcd", "aa", "dddddd"}) {
            CHECK.same("no beginning: " + none, x.letters(0, code(none)), -1);
        }
        CHECK.same("how many beginnings", x.ofNet(0, 5), 5);
        x.clear(0);
        CHECK.same("the empty text is one always", x.ofNet(0, 5) + " " + x.letters(0, 0) + " " + x.state(0, 0), "1 0 0");
    }

    /** "ENDS: all texts (perhaps the empty one)": a word that goes on is unlike one that does not. */
    private static void ends() {
        Wordnet x = Check.with("a", "ab", "cb", "d");
        x.least(0);
        CHECK.same("the state of a", x.state(0, code("a")), 1);
        CHECK.same("the state of c", x.state(0, code("c")), 2);
        CHECK.same("the state of d", x.state(0, code("d")), 3);
        CHECK.same("the state of ab and cb", x.state(0, code("ab")) + x.state(0, code("cb")), 6);
        CHECK.same("states", x.ofNet(0, 1), 4);
    }

    private static void looseStates() {
        Wordnet x = Check.with("a", "b", "c", "d");
        CHECK.same("each beginning is a state by itself", x.ofNet(0, 1), 5);
        for (int code = 0; code <= 4; code++) {
            CHECK.same("the state of code " + code, x.state(0, code), code);
        }
    }

    private static void leastStates() {
        Wordnet x = Check.with("a", "b", "c", "d");
        x.least(0);
        CHECK.same("all with the same ends are one state", x.ofNet(0, 1), 2);
        for (int code = 1; code <= 4; code++) {
            CHECK.same("the least state of code " + code, x.state(0, code), 1);
        }
    }

    /** "aa" is ahead of "c", but has more LETTERS; both have the ENDS "a". */
    private static void firstBeginningHasFewestLetters() {
        Wordnet x = Check.with("ca", "aaa", "dd");
        x.least(0);
        CHECK.same("states of a, c and d", x.state(0, 1) + " " + x.state(0, 3) + " " + x.state(0, 4), "1 2 3");
        CHECK.same("the state of aa is that of c", x.state(0, code("aa")), 2);
        CHECK.same("the state of the words", x.state(0, code("aaa")) + " " + x.state(0, code("dd")), "4 4");
    }

    /** "a" and "c" have the same ENDS, and "b", between them, has others. */
    private static void firstBeginningIsAhead() {
        Wordnet x = Check.with("ab", "ba", "cb");
        x.least(0);
        CHECK.same("states of a, b and c", x.state(0, 1) + " " + x.state(0, 2) + " " + x.state(0, 3), "1 2 1");
    }

    private static void statesAreNumberedByLettersThenOrder() {
        Wordnet x = Check.with("dab", "c", "ba", "aaa");
        String[] rising = {"", "a", "b", "c", "d", "aa", "ba", "da", "aaa", "dab"};
        for (int k = 0; k < rising.length; k++) {
            CHECK.same("the number of " + rising[k], x.state(0, code(rising[k])), k);
        }
        CHECK.same("all states are numbered", x.ofNet(0, 1), rising.length);
        x.least(0);
        CHECK.same("0 is that of the empty text", x.state(0, 0), 0);
    }

    private static void marks() {
        Wordnet x = Check.with("", "ab");
        x.pack(0);
        CHECK.same("marks", x.packed(0) + " " + x.packed(5) + " " + x.packed(10), "1 0 1");
        x.take(0, 0);
        x.least(0);
        x.pack(0);
        CHECK.same("marks without the empty word", x.packed(0) + " " + x.packed(5) + " " + x.packed(10), "0 0 1");
    }

    private static void withoutWords() {
        for (boolean isLeast : new boolean[] {false, true}) {
            Wordnet x = Check.with("ab");
            if (isLeast) {
                x.least(0);
            }
            x.take(0, 6);
            String what = isLeast ? ", least" : ", loose";
            CHECK.same("states without words" + what, x.ofNet(0, 1), 1);
            CHECK.same("lines without words" + what, x.ofNet(0, 2), 0);
            CHECK.same("pack without words" + what, x.pack(0), 5);
            CHECK.same("the pack without words" + what, Check.pack(x), "0 -1 -1 -1 -1");
        }
    }

    private static void lines() {
        Wordnet x = Check.with("ab", "cb", "cd");
        CHECK.same("lines, loose", x.ofNet(0, 2), 5);
        CHECK.same("a line, loose", x.line(0, 2, 3), x.state(0, code("cd")));
        x.least(0);
        CHECK.same("lines, least: two of them lead to one state", x.ofNet(0, 2), 5);
        CHECK.same("both lines", x.line(0, 2, 1) + " " + x.line(0, 2, 3), "3 3");
        CHECK.same("no line", x.line(0, 1, 3), -1);
    }

    private static void stays(String what, Call change) {
        for (int isLeast = 0; isLeast <= 1; isLeast++) {
            Wordnet x = Check.with("ab", "bb", "c");
            Check.tell(x, 1, "d", "cd");
            x.gather(1, 0, 0, 0);
            x.pack(1);
            if (isLeast == 1) {
                x.least(0);
            } else {
                x.least(1);
            }
            change.on(x);
            CHECK.same("net 0 stays, " + isLeast + ", when it comes to " + what, x.ofNet(0, 3), isLeast);
            CHECK.same("net 1 stays, " + isLeast + ", when it comes to " + what, x.ofNet(1, 3), 1 - isLeast);
        }
    }

    private static void staysLooseOrLeast() {
        stays("tell", x -> x.tell(0, 1));
        stays("take", x -> x.take(0, 6));
        stays("sow", x -> x.sow(0, 1, 1, 9));
        stays("fill", x -> x.fill(0, 6, 3));
        stays("prune", x -> x.prune(0, 1));
        stays("clear", x -> x.clear(0));
        for (int how = 0; how <= 3; how++) {
            int by = how;
            stays("mix by " + how, x -> x.mix(0, 1, by));
        }
        stays("turn", x -> x.turn(0));
        stays("unpack", x -> x.unpack(0));
        stays("spread", x -> x.spread(0));
    }

    private static void fits() {
        Wordnet x = new Wordnet();
        x.sow(0, 0, 1, 60);
        CHECK.same("the 61st to 120th words fit", x.sow(0, 60, 1, 60), 60);
        CHECK.same("a 121st does not, sow", x.sow(0, 120, 1, 60), 0);
        CHECK.same("a 121st does not, fill", x.fill(0, 5460, 63), 0);
        CHECK.badState("a 121st does not, tell", x, () -> x.tell(0, 120));
        CHECK.same("one of its words is told all the same", x.tell(0, 119), false);
        CHECK.same("words of a full net", x.ofNet(0, 0), 120);
    }

    // ---- 3. Ways to choose

    private static void extraThatDoesNotMatter() {
        for (int extra = 0; extra <= 63; extra++) {
            Wordnet x = Check.with("", "a", "ab", "ba", "bab");
            CHECK.same("those that begin with a, " + extra, x.count(0, 0, 1, extra), 2);
            CHECK.same("those that end with a, " + extra, x.count(0, 1, 1, extra), 2);
            CHECK.same("those in which a stands, " + extra, x.count(0, 4, 1, extra), 4);
            CHECK.same("the list of those that begin with a, " + extra, x.gather(0, 0, 1, extra) + " " + Check.list(x), "2 a ab");
            CHECK.same("the list of those that end with a, " + extra, x.gather(0, 1, 1, extra) + " " + Check.list(x), "2 a ba");
            CHECK.same("the list of those in which a stands, " + extra, x.gather(0, 4, 1, extra) + " " + Check.list(x), "4 a ab ba bab");
        }
        Wordnet x = Check.with("", "a", "ab", "ba", "bab");
        CHECK.same("all begin with the empty one", x.count(0, 0, 0, 0), 5);
        CHECK.same("all end with the empty one", x.count(0, 1, 0, 0), 5);
        CHECK.same("the empty one stands in all", x.count(0, 4, 0, 0), 5);
    }

    private static void gaps() {
        Wordnet x = Check.with("ab", "bb", "ac", "b", "abc");
        for (int extra = 0; extra <= 60; extra += 4) {
            CHECK.same("gaps that ab has not: " + extra, x.count(0, 2, 6, extra), 1);
            CHECK.same("a gap at place 0, and " + extra, x.count(0, 2, 6, extra + 1), 2);
            CHECK.same("a gap at place 1, and " + extra, x.count(0, 2, 6, extra + 2), 2);
            CHECK.same("gaps at both places, and " + extra, x.count(0, 2, 6, extra + 3), 3);
            CHECK.same("the empty word has none: " + extra, x.count(0, 2, 0, extra), 0);
        }
    }

    private static void distanceOrLess() {
        Wordnet x = Check.with("abc", "abd", "add", "ddd", "dddddd");
        int[] due = {1, 2, 3, 4, 4, 4, 5};
        for (int extra = 0; extra <= 6; extra++) {
            CHECK.same("distance " + extra + " or less from abc", x.count(0, 3, 27, extra), due[extra]);
        }
        CHECK.same("distance 63 or less", x.count(0, 3, 0, 63), 5);
    }

    private static void list() {
        Wordnet x = Check.with("b", "ab", "a", "");
        CHECK.same("the list at first", x.ofList(0), 0);
        x.gather(0, 0, 0, 0);
        CHECK.same("the list is in the order", Check.list(x), "- a ab b");
        x.gather(0, 0, 0, 0);
        CHECK.same("its words are all unlike", x.ofList(0), 4);
    }

    // ---- 4. The pack

    private static void pack() {
        Wordnet x = Check.with("b", "bd", "d");
        CHECK.same("the pack at first", x.ofPack(0), 0);
        x.pack(0);
        CHECK.same("state by state its mark and four lines", Check.pack(x),
                "0 -1 1 -1 2 1 -1 -1 -1 3 1 -1 -1 -1 -1 1 -1 -1 -1 -1");
        x.least(0);
        x.pack(0);
        CHECK.same("the same, least", Check.pack(x), "0 -1 1 -1 2 1 -1 -1 -1 2 1 -1 -1 -1 -1");
    }

    /** Three states: a mark is 0 or 1, any other number -1 to 2. */
    private static void outOfPlace() {
        for (int place = 0; place < 15; place++) {
            Wordnet x = Check.with("ab");
            x.pack(0);
            int highest = place % 5 == 0 ? 1 : 2;
            int lowest = place % 5 == 0 ? 0 : -1;
            for (int number : new int[] {lowest - 1, highest + 1, Integer.MIN_VALUE, Integer.MAX_VALUE}) {
                x.poke(place, number);
                CHECK.same("out of place: " + number + " at " + place, x.ofPack(1) + " " + x.unpack(1), place + " " + (-100 - place));
            }
            for (int number = lowest; number <= highest; number++) {
                x.poke(place, number);
                CHECK.same("in place: " + number + " at " + place, x.ofPack(1), -1);
                CHECK.same("no fault by place: " + number + " at " + place, x.unpack(1) > -100, true);
            }
        }
    }

    /** 445 STATES: all texts of up to three LETTERS, and 120 of four, of five and of six LETTERS each. */
    private static void outOfPlaceInTheLargestPack() {
        Wordnet x = new Wordnet();
        x.sow(0, 1365, 34, 60);
        x.sow(0, 1365 + 60 * 34, 34, 60);
        CHECK.same("the largest pack", x.pack(0), 5 * 445);
        for (int place : new int[] {2224, 2220, 2000, 1801, 1024, 256, 4, 1}) {
            int highest = place % 5 == 0 ? 1 : 444;
            int before = x.poke(place, highest);
            CHECK.same("in place, at " + place + " of many", x.ofPack(1), -1);
            x.poke(place, highest + 1);
            CHECK.same("out of place, at " + place + " of many", x.ofPack(1) + " " + x.unpack(1), place + " " + (-100 - place));
            x.poke(place, before);
        }
        CHECK.same("all in place again", x.unpack(1) + " " + x.parting(0, 1), "120 -1");
    }

    private static void firstFault() {
        Wordnet x = Check.with("ab");
        x.pack(0);
        x.poke(1, 0);
        CHECK.same("a text of seven letters", x.unpack(1), -6);
        x.poke(14, 3);
        CHECK.same("a number out of place goes ahead of it", x.unpack(1), -114);
        x.poke(13, -2);
        CHECK.same("the first of two places", x.unpack(1), -113);
        x.poke(10, 2);
        CHECK.same("the first of three places", x.unpack(1), -110);
        Wordnet y = Check.with("aaaaaa");
        y.pack(0);
        for (int place = 1; place < 30; place++) {
            if (place % 5 != 0) {
                y.poke(place, place / 5 + 1);
            }
        }
        CHECK.same("4096 words", y.unpack(1), -5);
        y.poke(34, 6);
        CHECK.same("seven letters go ahead of 4096 words", y.unpack(1), -6);
        y.poke(30, 2);
        CHECK.same("a place goes ahead of both", y.unpack(1), -130);
    }

    /** The 256 words begin with "a", the text of seven LETTERS is behind all of them by ORDER. */
    private static void longTextBehindManyWords() {
        Wordnet x = Check.with("aaaaa", "dddddd");
        x.pack(0);
        for (String beginning : new String[] {"a", "aa", "aaa", "aaaa"}) {
            for (int letter = 0; letter < 4; letter++) {
                x.poke(5 * x.state(0, code(beginning)) + 1 + letter, x.state(0, code(beginning + "a")));
            }
        }
        CHECK.same("257 words", x.unpack(1), -5);
        x.poke(5 * x.state(0, 5460) + 4, 0);
        CHECK.same("257 words, and then seven letters", x.unpack(1), -6);
    }

    private static void sevenLetters() {
        Wordnet x = Check.with("dddddd", "a");
        x.pack(0);
        CHECK.same("six letters", x.unpack(1), 2);
        int last = x.state(0, 5460);
        CHECK.same("the last state", last, 7);
        x.poke(5 * last + 4, 1);
        CHECK.same("seven letters, to a word", x.unpack(1), -6);
        x.poke(5, 0);
        CHECK.same("seven letters, whatever marks are there", x.unpack(1), -6);
        x.poke(5 * last, 0);
        x.poke(0, 0);
        CHECK.same("seven letters, without any mark", x.unpack(1), -6);
        x.poke(5 * last + 4, -1);
        CHECK.same("six letters, without any mark", x.unpack(1), 0);
        CHECK.same("then the net has no words", x.ofNet(1, 0), 0);
    }

    private static void manyWords() {
        for (int many : new int[] {119, 120}) {
            Wordnet x = new Wordnet();
            x.sow(0, 1, 1, 60);
            x.sow(0, 61, 1, many - 60);
            x.tell(1, 5460);
            x.pack(0);
            CHECK.same("a pack of " + many + " words", x.unpack(1), many);
            x.poke(0, 1);
            CHECK.same("a pack of " + many + " words and the empty one", x.unpack(1), many == 119 ? 120 : -5);
            CHECK.same("words of the net then", x.ofNet(1, 0), 120);
        }
        Wordnet x = Check.with("aaa");
        x.pack(0);
        for (int place = 1; place < 15; place++) {
            if (place % 5 != 0) {
                x.poke(place, place / 5 + 1);
            }
        }
        CHECK.same("64 words", x.unpack(1), 64);
        x.poke(10, 1);
        x.poke(5, 1);
        x.poke(0, 1);
        CHECK.same("85 words", x.unpack(1), 85);
        x.poke(15, 0);
        CHECK.same("21 words", x.unpack(1), 21);
        CHECK.same("the last of 21 words", x.words(1, 20, 1), "dd");
    }

    /** "all texts that begin at STATE 0": what no text comes to has no words, loops and all. */
    private static void textsThatAreRead() {
        Wordnet x = Check.with("ab", "c");
        x.pack(0);
        x.poke(1, -1);
        CHECK.same("only what texts come to", x.unpack(1), 1);
        x.poke(5 + 2, 1);
        CHECK.same("a loop that no text comes to", x.unpack(1), 1);
        x.poke(4, 2);
        CHECK.same("two texts to one state", x.unpack(1), 2);
        CHECK.same("their words", Check.all(x, 1), "c d");
    }

    // ---- 5. The text

    private static void text() {
        Wordnet x = new Wordnet();
        CHECK.same("the text at first", x.text(), "");
        for (int k = 1; k <= 10; k++) {
            CHECK.same("say, time " + k, x.say(5460), 6 * k);
        }
        CHECK.badState("a 61st letter", x, () -> x.say(1));
        CHECK.same("places are numbered from 0", x.sign(59) + " " + x.sign(60), "3 -9");
    }

    private static void matches() {
        Wordnet x = Check.with("", "a", "aa", "aaa", "b", "aabb");
        x.say(code("aaab"));
        CHECK.same("one letter or more, each word at each place", x.matches(0), 7);
        String[] due = {"0 0 a", "0 1 aa", "1 1 a", "0 2 aaa", "1 2 aa", "2 2 a", "3 3 b"};
        for (int nth = 0; nth < due.length; nth++) {
            String got = x.match(0, nth, 0) + " " + x.match(0, nth, 1) + " " + Check.word(x.match(0, nth, 2));
            CHECK.same("match " + nth + ", by its end, the longest first", got, due[nth]);
        }
        CHECK.same("a word that does not stand there whole", x.longest(0, 1), 2);
    }

    private static void fall() {
        Wordnet x = Check.with("ababab", "babc");
        CHECK.same("not itself, and the longest", x.falls(0, code("ababa")), code("aba"));
        CHECK.same("a beginning that is no word", x.falls(0, code("ab")), code("b"));
        CHECK.same("one from another word's beginnings", x.falls(0, code("abab")), code("bab"));
        CHECK.same("perhaps the empty one", x.falls(0, code("a")), 0);
        CHECK.same("the empty one for six letters, too", Check.with("aaaaab").falls(0, code("aaaaab")), 0);
    }

    private static void cut() {
        Wordnet x = Check.with("", "a", "ab", "bc", "abcd");
        x.say(code("abcabc"));
        CHECK.same("the longest from where the last piece ended", x.cut(0), "ab|(c)|ab|(c)");
        x.say(code("d"));
        CHECK.same("whole words only", x.cut(0), "ab|(c)|abcd");
        x.clear(0);
        x.tell(0, 0);
        CHECK.same("one letter or more", x.cut(0), "(a)|(b)|(c)|(a)|(b)|(c)|(d)");
    }

    // ---- 6. The cursor

    private static void cursor() {
        Wordnet x = Check.with("a");
        Check.tell(x, 1, "b");
        CHECK.same("in net 0 at first", x.cursor(0), 0);
        CHECK.same("at the empty text at first", x.cursor(1) + " " + x.cursor(2), "0 0");
        CHECK.same("it goes on only to beginnings", x.step(1), -1);
        CHECK.same("of its own net", x.step(0), 1);
        CHECK.same("nobody knocked at first", x.knock(), 1);
    }

    private static void cursorStays(String what, Call change) {
        Wordnet x = Check.with("ab", "abc", "ca");
        Check.tell(x, 1, "dd");
        x.pack(1);
        x.step(0);
        x.step(1);
        change.on(x);
        CHECK.same("where the cursor is behind " + what, x.cursor(0) + " " + x.cursor(1) + " " + x.cursor(2), "0 6 2");
        CHECK.same("no beginning behind " + what, x.cursor(3) + " " + x.cursor(4), "0 0");
        CHECK.same("step behind " + what, x.step(2), -1);
        CHECK.same("back behind " + what, x.back() + " " + x.cursor(1), "1 1");
    }

    private static void textOfTheCursorMayBecomeNone() {
        cursorStays("take", x -> x.take(0, 6) && x.take(0, 27));
        cursorStays("prune", x -> x.prune(0, 1));
        cursorStays("clear", x -> x.clear(0));
        cursorStays("mix by 1", x -> x.mix(0, 1, 1));
        cursorStays("mix by 2", x -> x.mix(0, 0, 2));
        cursorStays("copy", x -> x.copy(0, 1));
        cursorStays("turn", x -> x.turn(0));
        cursorStays("unpack", x -> x.unpack(0));
        Wordnet x = Check.with("ab", "abc");
        x.step(0);
        x.step(1);
        x.clear(0);
        CHECK.same("it stays where it is", x.cursor(1), 6);
        CHECK.same("no word begins with it", x.cursor(3) + " " + x.cursor(4), "0 0");
        CHECK.same("it does not go on", x.step(2), -1);
        x.tell(0, 27);
        CHECK.same("it goes on, when words are told again", x.step(2), 1);
        x.clear(0);
        CHECK.same("it goes back all the same", x.back() + " " + x.back() + " " + x.back() + " " + x.back(), "2 1 0 -9");
    }

    /** "An object is used for at most 512 calls". */
    private static void lastCall() {
        Wordnet x = new Wordnet();
        for (int k = 1; k <= 255; k++) {
            x.sow(0, k, 11, 60);
            x.prune(0, 0);
        }
        CHECK.same("call 511", x.tell(0, 27), true);
        CHECK.same("call 512", x.words(0, 0, 20), "abc");
        Wordnet y = new Wordnet();
        for (int k = 1; k <= 512; k++) {
            CHECK.same("knock " + k, y.knock(), k);
        }
    }
}
