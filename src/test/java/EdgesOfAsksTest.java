/** Promises 25 to 58, the sentences that name an edge: none, empty, full, the first and the last, a wrap-around. */
public final class EdgesOfAsksTest {
    private static final Check CHECK = new Check();

    public static void main(String[] args) {
        has();
        ofNetWithoutWords();
        ofNet();
        ofNetAtItsMost();
        below();
        rank();
        atRank();
        pick();
        pickOfMany();
        next();
        nextOfOne();
        letters();
        lettersOfSix();
        firstLetter();
        lettersBetween();
        words();
        count();
        distance();
        nearest();
        state();
        line();
        parting();
        common();
        alike();
        text();
        sign();
        falls();
        matches();
        matchesAtTheirMost();
        match();
        longest();
        cut();
        listed();
        ofList();
        listBetween();
        packed();
        ofPack();
        cursor();
        isSound();
        isSoundWithWordsOfSix();
        digestWrapsAround();
        digestOfManyKnocks();
        CHECK.end();
    }

    private static int code(String word) {
        return Check.code(word);
    }

    /** The 120 words with the CODES 0 to 119. */
    private static Wordnet full() {
        Wordnet x = new Wordnet();
        x.sow(0, 0, 1, 60);
        x.sow(0, 60, 1, 60);
        return x;
    }

    private static void has() {
        Wordnet x = Check.with("ab", "dddddd");
        CHECK.same("a word", x.has(0, 6) + " " + x.has(0, 5460), "true true");
        CHECK.same("the empty text, a beginning, one more letter", x.has(0, 0) + " " + x.has(0, 1) + " " + x.has(0, 27),
                "false false false");
    }

    /** "(6 to 9: NONE without WORDS)". */
    private static void ofNetWithoutWords() {
        Wordnet x = Check.with("ab");
        x.clear(0);
        int[] due = {0, 1, 0, 0, 1, 1, -1, -1, -1, -1};
        for (int what = 0; what <= 9; what++) {
            int asked = what;
            CHECK.unchanged("without words, " + what, x, due[what], () -> x.ofNet(0, asked));
        }
    }

    private static void ofNet() {
        Wordnet x = Check.with("");
        int[] due = {1, 1, 0, 0, 1, 1, 0, 0, 0, 0};
        for (int what = 0; what <= 9; what++) {
            CHECK.same("with the empty word alone, " + what, x.ofNet(0, what), due[what]);
        }
        Check.tell(x, 0, "dddddd", "b", "ba");
        CHECK.same("the longest and the shortest", x.ofNet(0, 6) + " " + x.ofNet(0, 7), "6 0");
        x.take(0, 0);
        CHECK.same("the shortest then", x.ofNet(0, 7), 1);
        CHECK.same("ahead of and behind all others", x.ofNet(0, 8) + " " + x.ofNet(0, 9), "2 5460");
        x.least(0);
        CHECK.same("if it was least, and is", x.ofNet(0, 1) + " " + x.ofNet(0, 4), "8 8");
        CHECK.same("beginnings, least", x.ofNet(0, 5), 9);
        x.loose(0);
        CHECK.same("if it was least, and is not", x.ofNet(0, 1) + " " + x.ofNet(0, 4), "9 8");
    }

    /** All texts of up to three LETTERS are BEGINNINGS, and 120 of four, of five and of six LETTERS each. */
    private static void ofNetAtItsMost() {
        Wordnet x = new Wordnet();
        for (int k = 0; k < 120; k++) {
            int start = 85 + k * 32 / 15;
            x.tell(0, (4 * start + 1 + k % 4) * 4 + 1 + k / 4 % 4);
        }
        int due = 1 + 4 + 16 + 64 + 3 * 120;
        CHECK.same("words at their most", x.ofNet(0, 0), 120);
        CHECK.same("beginnings at their most", x.ofNet(0, 5), due);
        CHECK.same("states at their most", x.ofNet(0, 1), due);
        CHECK.same("lines at their most", x.ofNet(0, 2), due - 1);
        CHECK.same("the pack at its most", x.pack(0) + " " + x.unpack(1) + " " + x.parting(0, 1), 5 * due + " 120 -1");
        CHECK.same("numbers that are none", x.ofPack(2), 4 * due - (due - 1));
        CHECK.same("no line leads from the last state", x.line(0, due - 1, 3), -1);
        CHECK.outOfBounds("a state more than the last", x, () -> x.line(0, due, 0));
    }

    private static void below() {
        Wordnet x = full();
        CHECK.same("all begin with the empty text", x.below(0, 0), 120);
        CHECK.same("the word itself, too", x.below(0, 119) + " " + x.below(0, 120), "1 0");
        CHECK.same("a word that is none, but begins some", Check.with("ab", "ac").below(0, 1), 2);
        CHECK.same("without words", x.below(1, 0) + " " + x.below(1, 5460), "0 0");
    }

    /** "(whether or not it is one)". */
    private static void rank() {
        Wordnet x = full();
        CHECK.same("the first", x.rank(0, 0), 0);
        CHECK.same("behind all", x.rank(0, 5460) + " " + x.rank(0, x.ofNet(0, 9)), "120 119");
        CHECK.same("one that is none", x.rank(0, code("aaaaaa")) + " " + x.rank(0, code("aaab")), "5 5");
        CHECK.same("without words", x.rank(1, 0) + " " + x.rank(1, 5460), "0 0");
        Wordnet y = Check.with("a");
        CHECK.same("not ahead of itself", y.rank(0, 1) + " " + y.rank(0, 5) + " " + y.rank(0, 0), "0 1 0");
    }

    private static void atRank() {
        Wordnet x = full();
        CHECK.same("the first and the last", x.atRank(0, 0) + " " + x.atRank(0, 119), "0 " + code("ddd"));
        CHECK.same("not so many", x.atRank(0, 120) + " " + x.atRank(0, 121) + " " + x.atRank(0, Integer.MAX_VALUE), "-1 -1 -1");
        CHECK.same("without words", x.atRank(1, 0), -1);
        CHECK.badArgument("below 0", x, () -> x.atRank(0, -1));
    }

    /** "modulo how many WORDS there are (never below 0)". */
    private static void pick() {
        Wordnet x = Check.with("a", "b", "c", "d", "");
        for (int number = -11; number <= 11; number++) {
            CHECK.same("pick of five, " + number, x.pick(0, number), (number + 15) % 5);
        }
        CHECK.same("pick far", x.pick(0, Integer.MAX_VALUE) + " " + x.pick(0, Integer.MIN_VALUE), "2 2");
        CHECK.same("without words", x.pick(1, 0) + " " + x.pick(1, -1) + " " + x.pick(1, Integer.MIN_VALUE), "-1 -1 -1");
    }

    private static void pickOfMany() {
        Wordnet x = full();
        CHECK.same("119, 120, -1", x.pick(0, 119) + " " + x.pick(0, 120) + " " + x.pick(0, -1), "84 0 84");
        Wordnet y = Check.with("c");
        for (int number : new int[] {0, 1, -1, Integer.MAX_VALUE, Integer.MIN_VALUE}) {
            CHECK.same("of one, " + number, y.pick(0, number), 3);
        }
        y.tell(0, 4);
        CHECK.same("of two", y.pick(0, Integer.MIN_VALUE) + " " + y.pick(0, Integer.MAX_VALUE), "3 4");
    }

    private static void next() {
        Wordnet x = full();
        for (int way = 0; way <= 3; way++) {
            CHECK.same("from the first, " + way, x.next(0, 0, way), new int[] {0, -1, 0, 1}[way]);
            CHECK.same("from the last, " + way, x.next(0, 84, way), new int[] {84, 83, 84, -1}[way]);
            CHECK.same("from behind all, " + way, x.next(0, 5460, way), new int[] {84, 84, -1, -1}[way]);
            CHECK.same("without words, " + way, x.next(1, 0, way), -1);
        }
    }

    /** "but not behind it", "ahead of it", "but not ahead of it", "behind it". */
    private static void nextOfOne() {
        Wordnet x = Check.with("b");
        String[] asked = {"aaaaaa", "b", "ba", ""};
        int[][] due = {{-1, -1, 2, 2}, {2, -1, 2, -1}, {2, 2, -1, -1}, {-1, -1, 2, 2}};
        for (int k = 0; k < asked.length; k++) {
            for (int way = 0; way <= 3; way++) {
                CHECK.same("from " + asked[k] + ", " + way, x.next(0, code(asked[k]), way), due[k][way]);
            }
        }
    }

    private static void letters() {
        Wordnet x = Check.with("a", "b", "c", "d", "dd", "ddd", "dddd", "dddda", "ddddab");
        CHECK.same("all letters", x.letters(0, 0), 15);
        CHECK.same("the last letter alone", x.letters(0, 4), 8);
        CHECK.same("no letter behind a whole word", x.letters(0, 1) + " " + x.letters(0, code("ddddab")), "0 0");
        CHECK.same("the letter behind five", x.letters(0, code("dddda")), 2);
        CHECK.same("no beginning", x.letters(0, 5) + " " + x.letters(0, 5460), "-1 -1");
        CHECK.same("the empty text is a beginning always", x.letters(1, 0) + " " + x.letters(1, 1), "0 -1");
    }

    /** No text of seven LETTERS is a BEGINNING, not even one with a CODE just behind the last one. */
    private static void lettersOfSix() {
        for (String word : new String[] {"aaaaaa", "aaaaab", "dddddd", "ddddda", "abcdab"}) {
            Wordnet x = Check.with(word, "");
            for (int letter = 0; letter < 4; letter++) {
                x.tell(0, code(word.substring(0, 5)) * 4 + letter + 1);
            }
            int six = code(word);
            CHECK.same("letters of " + word, x.letters(0, six), 0);
            CHECK.same("letters of what it begins with", x.letters(0, (six - 1) / 4), 15);
            CHECK.same("the first letter of " + word, x.firstLetter(0, six, false) + " " + x.firstLetter(0, six, true), "-9 -9");
            CHECK.same("letters between of " + word, x.lettersBetween(0, six, 0, 4), 0);
            for (char sign : word.toCharArray()) {
                x.step(sign - 'a');
            }
            for (int letter = 0; letter < 4; letter++) {
                CHECK.same("a seventh letter, " + letter, x.step(letter) + " " + x.cursor(1) + " " + x.cursor(4), "-1 " + six + " 1");
            }
        }
    }

    /** "EMPTY, if there are none, or it is no BEGINNING". */
    private static void firstLetter() {
        Wordnet x = Check.with("a", "d", "bc");
        for (boolean isLast : new boolean[] {false, true}) {
            CHECK.same("of several, " + isLast, x.firstLetter(0, 0, isLast), isLast ? 3 : 0);
            CHECK.same("of one, " + isLast, x.firstLetter(0, 2, isLast), 2);
            CHECK.same("there are none, " + isLast, x.firstLetter(0, 1, isLast), -9);
            CHECK.same("it is no beginning, " + isLast, x.firstLetter(0, 3, isLast), -9);
            CHECK.same("without words, " + isLast, x.firstLetter(1, 0, isLast), -9);
        }
    }

    /** "WRONG, if from is above to (also if it is no BEGINNING)". */
    private static void lettersBetween() {
        Wordnet x = Check.with("a", "c", "d");
        for (int from = 0; from <= 4; from++) {
            for (int to = 0; to <= 4; to++) {
                int due = 0;
                for (int letter = from; letter < to; letter++) {
                    due += letter == 1 ? 0 : 1;
                }
                String what = from + " to " + to;
                CHECK.same("letters from " + what, x.lettersBetween(0, 0, from, to), from > to ? -7 : due);
                CHECK.same("of no beginning from " + what, x.lettersBetween(0, 2, from, to), from > to ? -7 : 0);
                CHECK.same("without words from " + what, x.lettersBetween(1, 0, from, to), from > to ? -7 : 0);
            }
        }
    }

    /** "so many or as many as there are"; "the empty one is told as "-""; """ if there are none". */
    private static void words() {
        Wordnet x = full();
        CHECK.same("one", x.words(0, 0, 1), "-");
        CHECK.same("the last ones", x.words(0, 117, 20), "ddb ddc ddd");
        CHECK.same("the last one", x.words(0, 119, 20) + x.words(0, 119, 1), "dddddd");
        CHECK.same("behind the last one", x.words(0, 120, 1) + x.words(0, 121, 20) + x.words(0, Integer.MAX_VALUE, 20), "");
        CHECK.same("as many as can be", x.words(0, 100, 20).split(" ").length, 20);
        CHECK.same("not more", x.words(0, 99, 20).split(" ").length, 20);
        CHECK.same("without words", x.words(1, 0, 1), "");
        CHECK.same("a net of the empty word", Check.with("").words(0, 0, 20), "-");
    }

    private static void count() {
        Wordnet x = full();
        for (int how : new int[] {0, 1, 4}) {
            CHECK.same("all, by " + how, x.count(0, how, 0, 0), 120);
            CHECK.same("without words, by " + how, x.count(1, how, 0, 63), 0);
            CHECK.same("none, by " + how, x.count(0, how, 5460, 63), 0);
        }
        CHECK.same("all of three letters", x.count(0, 2, 27, 63) + " " + x.count(0, 2, 27, 7) + " " + x.count(0, 2, 27, 6), "64 64 16");
        CHECK.same("the empty one", x.count(0, 2, 0, 0) + " " + x.count(1, 2, 0, 63), "1 0");
        CHECK.same("by distance 0", x.count(0, 3, 27, 0) + " " + x.count(0, 3, 5460, 0), "1 0");
        CHECK.same("by distance 1 from the empty one", x.count(0, 3, 0, 1), 5);
        CHECK.same("by distance 63", x.count(0, 3, 0, 63), 120);
    }

    private static void distance() {
        Wordnet x = new Wordnet();
        for (int many = 0; many <= 6; many++) {
            int word = code("dddddd".substring(6 - many));
            CHECK.same("from the empty one to " + many, x.distance(0, word), many);
            CHECK.same("to the empty one from " + many, x.distance(word, 0), many);
            CHECK.same("to itself, " + many, x.distance(word, word), 0);
            CHECK.same("to six others, " + many, x.distance(word, code("aaaaaa")), 6);
        }
    }

    /** "of several that which is ahead of the others; NONE without WORDS". */
    private static void nearest() {
        Wordnet x = Check.with("d", "b", "c");
        CHECK.same("of three as near", x.nearest(0, 1) + " " + x.nearest(0, 0), "2 2");
        CHECK.same("itself", x.nearest(0, 4), 4);
        CHECK.same("without words", x.nearest(1, 0) + " " + x.nearest(1, 5460), "-1 -1");
        CHECK.same("the only one, as far as can be", Check.with("aaaaaa").nearest(0, 5460), code("aaaaaa"));
        Wordnet y = Check.with("ab", "b");
        CHECK.same("ahead by order, not with fewer letters", y.nearest(0, code("bb")), 6);
    }

    private static void state() {
        Wordnet x = Check.with("ab", "cb");
        for (int k = 0; k <= 1; k++) {
            CHECK.same("the empty text, " + k, x.state(0, 0), 0);
            CHECK.same("no beginning, " + k, x.state(0, 2) + " " + x.state(0, 5) + " " + x.state(0, 5460), "-1 -1 -1");
            CHECK.same("the last state, " + k, x.state(0, code("cb")), k == 0 ? 4 : 2);
            CHECK.same("without words, " + k, x.state(1, 0) + " " + x.state(1, 1), "0 -1");
            x.least(0);
            x.least(1);
        }
    }

    /** "if there is no such NET, or STATE of it": of a LEAST one there are fewer. */
    private static void line() {
        Wordnet x = Check.with("ab", "cb");
        CHECK.same("from the first state", x.line(0, 0, 0) + " " + x.line(0, 0, 1) + " " + x.line(0, 0, 2), "1 -1 2");
        CHECK.same("from the last state", x.line(0, 4, 0), -1);
        CHECK.outOfBounds("a state behind the last", x, () -> x.line(0, 5, 0));
        x.least(0);
        CHECK.same("from the last least state", x.line(0, 2, 3), -1);
        CHECK.same("two lines to one state", x.line(0, 0, 0) + " " + x.line(0, 0, 2), "1 1");
        for (int state : new int[] {3, 4, -1}) {
            CHECK.outOfBounds("state " + state + " of a least net", x, () -> x.line(0, state, 0));
        }
        x.prune(0, 1);
        CHECK.same("from a state that is still there", x.line(0, 2, 0), -1);
        x.clear(0);
        CHECK.same("without words from the only state", x.line(0, 0, 0), -1);
        CHECK.outOfBounds("without words from another one", x, () -> x.line(0, 1, 0));
    }

    /** "that with the fewest LETTERS, of several that which is ahead of the others; NONE, if there is none". */
    private static void parting() {
        Wordnet x = Check.with("aaa", "cc", "ab");
        Check.tell(x, 1, "aaa", "ba", "bbbb");
        CHECK.same("the fewest letters, then ahead", x.parting(0, 1) + " " + x.parting(1, 0), "6 6");
        x.take(0, 6);
        CHECK.same("one of the other's", x.parting(0, 1) + " " + x.parting(1, 0), "9 9");
        CHECK.same("from one without words", x.parting(0, 2) + " " + x.parting(2, 1), code("cc") + " 9");
        CHECK.same("from itself, with words and without", x.parting(0, 0) + " " + x.parting(2, 2), "-1 -1");
        x.copy(1, 0);
        x.least(1);
        CHECK.same("none, loose and least", x.parting(0, 1), -1);
        x.tell(1, 0);
        CHECK.same("the empty word", x.parting(0, 1), 0);
    }

    /** "(however many)". */
    private static void common() {
        Wordnet x = full();
        x.sow(1, 119, 1, 60);
        x.sow(1, 179, 1, 60);
        int[] due = {239, 1, 119, 238};
        for (int how = 0; how <= 3; how++) {
            int by = how;
            CHECK.unchanged("of two full ones by " + how, x, due[how], () -> x.common(0, 1, by));
            CHECK.same("of a full one with itself by " + how, x.common(0, 0, how), how < 2 ? 120 : 0);
            CHECK.same("of two without words by " + how, new Wordnet().common(1, 2, how), 0);
        }
    }

    private static void alike() {
        Wordnet x = full();
        CHECK.same("a full one and itself", x.alike(0, 0), true);
        x.copy(1, 0);
        x.least(1);
        CHECK.same("a loose one and a least one", x.alike(0, 1) + " " + x.alike(1, 0), "true true");
        x.take(1, 119);
        CHECK.same("but for one word", x.alike(0, 1) + " " + x.alike(1, 0), "false false");
        x.clear(1);
        CHECK.same("without words, loose and least", x.alike(1, 2) + " " + x.alike(2, 1) + " " + x.alike(0, 2), "true true false");
        Wordnet y = Check.with("a");
        y.tell(1, 2);
        CHECK.same("as many states, another line", y.alike(0, 1), false);
        y.take(1, 2);
        y.tell(1, 0);
        CHECK.same("another mark", y.alike(1, 2), false);
    }

    private static void text() {
        Wordnet x = new Wordnet();
        CHECK.same("no text", x.text(), "");
        for (int k = 0; k < 10; k++) {
            x.say(code("abcdab"));
        }
        CHECK.same("the longest text", x.text(), "abcdab".repeat(10));
    }

    /** "EMPTY, if there is no such place". */
    private static void sign() {
        Wordnet x = new Wordnet();
        CHECK.same("without a text", x.sign(0) + " " + x.sign(-1), "-9 -9");
        for (int k = 0; k < 10; k++) {
            x.say(code("abcdab"));
        }
        CHECK.same("the first and the last", x.sign(0) + " " + x.sign(59), "0 1");
        CHECK.same("ahead and behind", x.sign(-1) + " " + x.sign(60), "-9 -9");
        CHECK.same("far", x.sign(Integer.MIN_VALUE) + " " + x.sign(Integer.MAX_VALUE), "-9 -9");
        x.hush();
        x.say(4);
        CHECK.same("where there was one", x.sign(0) + " " + x.sign(1), "3 -9");
    }

    /** "NONE, if it is none, or the empty one". */
    private static void falls() {
        Wordnet x = Check.with("dddddd", "ab");
        CHECK.same("the empty one", x.falls(0, 0), -1);
        CHECK.same("no beginning, though it ends with one", x.falls(0, code("bd")) + " " + x.falls(0, code("b")), "-1 -1");
        CHECK.same("the longest", x.falls(0, 5460), code("ddddd"));
        CHECK.same("the empty text", x.falls(0, 4) + " " + x.falls(0, 6), "0 0");
        CHECK.same("without words", x.falls(1, 0) + " " + x.falls(1, 1), "-1 -1");
    }

    private static void matches() {
        Wordnet x = Check.with("", "abc");
        CHECK.same("without a text", x.matches(0), 0);
        x.say(code("ab"));
        CHECK.same("a word longer than the text", x.matches(0), 0);
        x.say(code("c"));
        CHECK.same("a word as long as the text", x.matches(0) + " " + x.match(0, 0, 0) + " " + x.match(0, 0, 1), "1 0 2");
        CHECK.same("of a net without words", x.matches(1) + " " + x.match(1, 0, 2), "0 -1");
        x.say(code("ab"));
        CHECK.same("a word that the text breaks off", x.matches(0), 1);
        Wordnet y = Check.with("abcdab");
        y.say(code("aabcda"));
        y.say(code("b"));
        CHECK.same("six letters up to the end", y.matches(0) + " " + y.match(0, 0, 0) + " " + y.match(0, 0, 1), "1 1 6");
    }

    /** 60 places and a word of each length: 60 + 59 + 58 + 57 + 56 + 55. */
    private static void matchesAtTheirMost() {
        Wordnet x = Check.with("d", "dd", "ddd", "dddd", "ddddd", "dddddd");
        for (int k = 0; k < 10; k++) {
            x.say(5460);
        }
        CHECK.same("as many as can be", x.matches(0), 345);
        CHECK.same("the last one", x.match(0, 344, 0) + " " + x.match(0, 344, 1) + " " + x.match(0, 344, 2), "59 59 4");
        CHECK.same("the last but one", x.match(0, 343, 0) + " " + x.match(0, 343, 2), "58 20");
        CHECK.same("not so many", x.match(0, 345, 0) + " " + x.match(0, 346, 2), "-1 -1");
    }

    private static void match() {
        Wordnet x = Check.with("a", "ab", "b");
        CHECK.same("without a text", x.match(0, 0, 0) + " " + x.match(0, 0, 1) + " " + x.match(0, 0, 2), "-1 -1 -1");
        x.say(6);
        CHECK.same("by where the word ends, not where it begins", x.match(0, 1, 2) + " " + x.match(0, 2, 2), "6 2");
        CHECK.same("not so many", x.match(0, 3, 0) + " " + x.match(0, Integer.MAX_VALUE, 0), "-1 -1");
        CHECK.badArgument("below 0", x, () -> x.match(0, -1, 0));
    }

    /** "a place in the TEXT, or as many as it has LETTERS". */
    private static void longest() {
        Wordnet x = Check.with("dddddd", "d");
        CHECK.same("without a text", x.longest(0, 0), -1);
        CHECK.outOfBounds("a place without a text", x, () -> x.longest(0, 1));
        for (int k = 0; k < 10; k++) {
            x.say(5460);
        }
        CHECK.same("where six letters are left", x.longest(0, 54) + " " + x.longest(0, 55), "6 1");
        CHECK.same("at the last letter and behind it", x.longest(0, 59) + " " + x.longest(0, 60), "1 -1");
        CHECK.outOfBounds("further behind it", x, () -> x.longest(0, 61));
        CHECK.outOfBounds("ahead of the text", x, () -> x.longest(0, -1));
        x.tell(1, 0);
        CHECK.same("it may be the empty one", x.longest(1, 0) + " " + x.longest(1, 60) + " " + x.longest(2, 0), "0 0 -1");
    }

    /** "its pieces, with "|" between ("ab|(c)|d"); "", if the TEXT is empty". */
    private static void cut() {
        Wordnet x = Check.with("ab", "d", "");
        CHECK.same("an empty text", x.cut(0), "");
        x.say(3);
        CHECK.same("one piece in brackets", x.cut(0), "(c)");
        x.hush();
        x.say(6);
        CHECK.same("one piece", x.cut(0), "ab");
        x.say(code("cd"));
        CHECK.same("three pieces", x.cut(0), "ab|(c)|d");
        x.say(1);
        CHECK.same("a word that the text breaks off", x.cut(0), "ab|(c)|d|(a)");
        CHECK.same("by a net without words", x.cut(1), "(a)|(b)|(c)|(d)|(a)");
        Wordnet y = Check.with("ddddd", "dddddd");
        for (int k = 0; k < 9; k++) {
            y.say(5460);
        }
        y.say(code("ddddd"));
        CHECK.same("59 letters", y.cut(0), "dddddd|".repeat(9) + "ddddd");
    }

    private static void listed() {
        Wordnet x = full();
        CHECK.same("of no list", x.listed(0) + " " + x.listed(Integer.MAX_VALUE), "-1 -1");
        x.gather(0, 0, 0, 0);
        CHECK.same("the first and the last", x.listed(0) + " " + x.listed(119), "0 84");
        CHECK.same("not so many", x.listed(120) + " " + x.listed(121), "-1 -1");
        CHECK.badArgument("below 0", x, () -> x.listed(-1));
        x.gather(0, 3, 0, 0);
        CHECK.same("where there was one", x.listed(0) + " " + x.listed(1), "0 -1");
    }

    /** "(EMPTY, if there is none)", of the first and the last one only. */
    private static void ofList() {
        Wordnet x = full();
        CHECK.same("of no list", x.ofList(0) + " " + x.ofList(1) + " " + x.ofList(2) + " " + x.ofList(3), "0 -9 -9 0");
        x.gather(0, 2, 0, 0);
        CHECK.same("of the empty word", x.ofList(0) + " " + x.ofList(1) + " " + x.ofList(2) + " " + x.ofList(3), "1 0 0 0");
        x.listPoll(true);
        CHECK.same("of none again", x.ofList(0) + " " + x.ofList(1) + " " + x.ofList(2) + " " + x.ofList(3), "0 -9 -9 0");
        x.fill(1, 5460, 63);
        x.gather(1, 0, 0, 0);
        CHECK.same("of 120 words", x.ofList(0) + " " + x.ofList(1) + " " + x.ofList(3), "120 1365 720");
    }

    /** "not ahead of the first of both words, but ahead of the other one". */
    private static void listBetween() {
        Wordnet x = Check.with("", "a", "ab", "b");
        CHECK.same("of no list", x.listBetween(0, 5460) + " " + x.listBetween(1, 0), "0 -7");
        x.gather(0, 0, 0, 0);
        CHECK.same("all", x.listBetween(0, 5460), 4);
        CHECK.same("the first belongs to it, the other does not", x.listBetween(0, 2) + " " + x.listBetween(1, 6), "3 1");
        CHECK.same("the same", x.listBetween(1, 1) + " " + x.listBetween(0, 0) + " " + x.listBetween(5460, 5460), "0 0 0");
        CHECK.same("words that are not in it", x.listBetween(5, 9), 2);
        CHECK.same("by order, not by codes", x.listBetween(5, 2) + " " + x.listBetween(2, 5), "1 -7");
        CHECK.same("behind", x.listBetween(5460, 0) + " " + x.listBetween(1, 0), "-7 -7");
    }

    private static void packed() {
        Wordnet x = Check.with("a", "c");
        CHECK.outOfBounds("without a pack", x, () -> x.packed(0));
        x.pack(0);
        CHECK.same("the first and the last", x.packed(0) + " " + x.packed(1) + " " + x.packed(3) + " " + x.packed(14), "0 1 2 -1");
        CHECK.outOfBounds("behind the last", x, () -> x.packed(15));
        CHECK.outOfBounds("ahead of the first", x, () -> x.packed(-1));
        x.pack(1);
        CHECK.same("the last of another one", x.packed(4), -1);
        CHECK.outOfBounds("where a longer one was", x, () -> x.packed(5));
    }

    /** "the first place at which one is out of place (NONE, if there is none)". */
    private static void ofPack() {
        Wordnet x = Check.with("a");
        CHECK.same("without a pack", x.ofPack(0) + " " + x.ofPack(1) + " " + x.ofPack(2), "0 -1 0");
        x.pack(0);
        CHECK.same("all in place", x.ofPack(0) + " " + x.ofPack(1) + " " + x.ofPack(2), "10 -1 7");
        x.poke(9, 2);
        CHECK.same("the last place", x.ofPack(1) + " " + x.ofPack(2), "9 6");
        x.poke(5, -1);
        CHECK.same("NONE at a mark is one, and out of place", x.ofPack(1) + " " + x.ofPack(2), "5 7");
        x.poke(0, Integer.MIN_VALUE);
        CHECK.same("the first place", x.ofPack(1), 0);
        x.pack(1);
        CHECK.same("of another one", x.ofPack(0) + " " + x.ofPack(1) + " " + x.ofPack(2), "5 -1 4");
    }

    private static String cursorOf(Wordnet x) {
        return x.cursor(0) + " " + x.cursor(1) + " " + x.cursor(2) + " " + x.cursor(3) + " " + x.cursor(4);
    }

    private static void cursor() {
        Wordnet x = Check.with("abcdab", "abc");
        CHECK.same("at the empty text, which is no word", cursorOf(x), "0 0 0 0 2");
        x.tell(0, 0);
        CHECK.same("at the empty text, which is a word now", cursorOf(x), "0 0 0 1 3");
        for (int letter : new int[] {0, 1, 2, 3, 0, 1}) {
            x.step(letter);
        }
        CHECK.same("at six letters", cursorOf(x), "0 " + code("abcdab") + " 6 1 1");
        x.take(0, code("abcdab"));
        CHECK.same("at what is no beginning now", cursorOf(x), "0 " + code("abcdab") + " 6 0 0");
        x.enter(2);
        CHECK.same("in a net without words", cursorOf(x), "2 0 0 0 0");
    }

    private static void isSound() {
        Wordnet x = full();
        x.fill(1, 5460, 63);
        x.least(1);
        x.sow(2, 1365, 34, 60);
        x.sow(2, 1365 + 60 * 34, 34, 60);
        CHECK.unchanged("with three full nets", x, true, x::isSound);
        x.enter(0);
        x.step(0);
        x.clear(0);
        CHECK.same("with a cursor at no beginning", x.cursor(4) + " " + x.isSound(), "0 true");
        Wordnet y = full();
        y.gather(0, 0, 0, 0);
        for (int k = 0; k < 10; k++) {
            y.say(5460);
        }
        y.pack(1);
        y.poke(0, 5);
        CHECK.unchanged("with a full list and text, and a number out of place", y, true, y::isSound);
        Wordnet z = new Wordnet();
        CHECK.unchanged("with nothing", z, true, z::isSound);
    }

    private static void isSoundWithWordsOfSix() {
        for (int net = 0; net < 3; net++) {
            Wordnet x = new Wordnet();
            Check.tell(x, net, "dddddd", "aaaaaa", "abcdab", "");
            x.gather(net, 0, 0, 0);
            x.enter(net);
            for (int letters = 1; letters <= 6; letters++) {
                x.step(3);
                CHECK.unchanged("net " + net + ", a cursor at " + letters + " letters", x, true, x::isSound);
            }
            CHECK.same("at a word of six", x.cursor(2) + " " + x.cursor(3), "6 1");
        }
    }

    /** "which wraps around as a 64-bit integer": 117 numbers and 5305 are far more than 64 bits hold. */
    private static void digestWrapsAround() {
        java.math.BigInteger d = java.math.BigInteger.valueOf(5305);
        int[] ofEachNet = {0, 1, 0, 0, 1, 1, -1, -1, -1, -1, 0, -1, -1, -1, 0, 0, 0, 0, 0, -1, -1, 0, -1, -1, -1, 0};
        int[] ofTheRest = {-1, -1, -1, 0, 0, 0, 0, 0, 0, -9, -9, 0, 0, -1, 0, 0, 0, 0, 0, 0, 0, 1};
        for (int k = 0; k < 3 * ofEachNet.length + ofTheRest.length; k++) {
            int v = k < 3 * ofEachNet.length ? ofEachNet[k % ofEachNet.length] : ofTheRest[k - 3 * ofEachNet.length];
            d = d.multiply(java.math.BigInteger.valueOf(31)).add(java.math.BigInteger.valueOf(v));
        }
        CHECK.same("it wraps", d.bitLength() > 64, true);
        CHECK.same("digest of a new object", new Wordnet().digest(), d.longValue());
    }

    /** Behind how many KNOCKED there is one number more. */
    private static void digestOfManyKnocks() {
        Wordnet x = full();
        long before = x.digest();
        for (int knocks = 1; knocks <= 500; knocks++) {
            x.knock();
            if (knocks % 100 == 0) {
                CHECK.same("digest of " + knocks + " knocks", x.digest() - before, 31L * knocks);
            }
        }
    }
}
