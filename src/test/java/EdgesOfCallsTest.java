/** Promises 1 to 24, the sentences that name an edge: empty, full, the first and the last, a wrap-around. */
public final class EdgesOfCallsTest {
    private static final Check CHECK = new Check();

    public static void main(String[] args) {
        newObject();
        tell();
        take();
        sow();
        sowWrapsAround();
        sowWhatFits();
        fill();
        fillWhatFits();
        prune();
        clear();
        least();
        loose();
        mix();
        mixWhenFull();
        copy();
        copyGoesItsOwnWay();
        turn();
        turnWhenFull();
        pack();
        poke();
        unpack();
        gather();
        spread();
        spreadWhatFits();
        listPoll();
        say();
        hush();
        enter();
        step();
        back();
        knock();
        CHECK.end();
    }

    private static int code(String word) {
        return Check.code(word);
    }

    /** 120 words with the CODES from one on. */
    private static Wordnet full(int first) {
        Wordnet x = new Wordnet();
        x.sow(0, first, 1, 60);
        x.sow(0, first + 60, 1, 60);
        return x;
    }

    /** "Creates three LOOSE NETS without WORDS", and all else is none at first. */
    private static void newObject() {
        for (int net = 0; net < 3; net++) {
            Wordnet x = new Wordnet();
            String of = " of new net " + net;
            CHECK.same("take" + of, x.take(net, 0), false);
            CHECK.same("prune" + of, x.prune(net, 0), 0);
            CHECK.same("clear" + of, x.clear(net), 0);
            CHECK.same("loose" + of, x.loose(net), 0);
            CHECK.same("turn" + of, x.turn(net), 0);
            CHECK.same("mix" + of, x.mix(net, (net + 1) % 3, 0), 0);
            CHECK.same("copy" + of, x.copy(net, (net + 1) % 3), 0);
            CHECK.same("unpack" + of, x.unpack(net), -9);
            CHECK.same("gather" + of, x.gather(net, 0, 0, 0), 0);
            CHECK.same("spread" + of, x.spread(net), 0);
            CHECK.same("enter" + of, x.enter(net), 0);
            CHECK.same("pack" + of, x.pack(net), 5);
        }
        Wordnet x = new Wordnet();
        CHECK.same("a new cursor, text and list", x.cursor(0) + " " + x.cursor(1) + " " + x.text() + " " + x.ofList(0), "0 0  0");
    }

    /** "Returns whether it is new" and "if it is new and does not FIT". */
    private static void tell() {
        Wordnet x = Check.with();
        CHECK.same("tell the first code", x.tell(0, 0) + " " + x.tell(0, 0), "true false");
        CHECK.same("tell the last code", x.tell(0, 5460) + " " + x.tell(0, 5460), "true false");
        Wordnet y = full(1);
        CHECK.badState("tell the empty word to a full net", y, () -> y.tell(0, 0));
        for (int code = 1; code <= 120; code++) {
            CHECK.same("tell a full net its word " + code, y.tell(0, code), false);
        }
        CHECK.same("a full net stays full", y.ofNet(0, 0), 120);
    }

    /** "Returns whether it was there." */
    private static void take() {
        Wordnet x = full(0);
        CHECK.same("take one that is not there from a full net", x.take(0, 120), false);
        CHECK.same("take the first", x.take(0, 0), true);
        CHECK.same("take the last", x.take(0, code("dddd")) + " " + x.take(0, x.ofNet(0, 9)), "false true");
        CHECK.same("two fewer", x.ofNet(0, 0), 118);
        CHECK.same("then two fit", x.sow(0, 5000, 1, 3), 2);
        Wordnet y = Check.with("ab");
        CHECK.same("a beginning is none of the words", y.take(0, 1) + " " + y.take(0, 0), "false false");
        CHECK.same("take the only one", y.take(0, 6) + " " + y.take(0, 6), "true false");
        Wordnet z = Check.with("");
        CHECK.same("take the empty word, the only one", z.take(0, 0) + " " + z.take(0, 0) + " " + z.ofNet(0, 0), "true false 0");
    }

    private static void sow() {
        Wordnet x = new Wordnet();
        CHECK.same("sow one", x.sow(0, 9, 5460, 1), 1);
        CHECK.same("only that one", Check.all(x, 0), "ba");
        CHECK.same("sow sixty", x.sow(1, 21, 1, 60), 60);
        CHECK.same("sow sixty again", x.sow(1, 21, 1, 60), 0);
        CHECK.same("sow sixty times the same", x.sow(2, 0, 0, 60), 1);
        CHECK.same("some of them new", x.sow(1, 80, 1, 3), 2);
    }

    /** "(from + k * step) modulo 5461": 5461 is 43 * 127, and so 127 comes back after 43 steps. */
    private static void sowWrapsAround() {
        Wordnet x = new Wordnet();
        CHECK.same("sow round by 127", x.sow(0, 3, 127, 60), 43);
        CHECK.same("sow over the last code", x.sow(1, 5459, 1, 4), 4);
        CHECK.same("sown over the last code", Check.all(x, 1), "- a dddddc dddddd");
        CHECK.same("sow back over the first code", x.sow(2, 1, 5460, 4), 4);
        CHECK.same("sown back over the first code", Check.all(x, 2), "- a dddddc dddddd");
        Wordnet y = new Wordnet();
        CHECK.same("sow as far as can be", y.sow(0, 5460, 5460, 60), 60);
        CHECK.same("the last sown", y.has(0, 5460 - 59) + " " + y.has(0, 5460 - 60), "true false");
    }

    /** "one after the other; those that do not FIT are left out". */
    private static void sowWhatFits() {
        Wordnet x = full(0);
        x.take(0, 50);
        CHECK.same("sow over what is there, with room for one", x.sow(0, 117, 1, 9), 1);
        CHECK.same("the first new one fits", x.has(0, 120) + " " + x.has(0, 121), "true false");
        x.take(0, 60);
        CHECK.same("the first told, not the first by order", x.sow(0, 5460, 5455, 2), 1);
        CHECK.same("that is it", x.has(0, 5460) + " " + x.has(0, 5454), "true false");
        CHECK.same("sow into a full one", x.sow(0, 4000, 1, 60), 0);
    }

    private static void fill() {
        Wordnet x = new Wordnet();
        CHECK.same("fill without gaps", x.fill(0, 27, 0) + " " + Check.all(x, 0), "1 abc");
        CHECK.same("fill again", x.fill(0, 27, 0), 0);
        CHECK.same("gaps that abc has not do not matter", x.fill(0, 27, 56), 0);
        CHECK.same("one gap, in the front", x.fill(0, 27, 1) + " " + Check.all(x, 0), "3 abc bbc cbc dbc");
        CHECK.same("one gap, at the end", x.fill(1, 27, 4) + " " + Check.all(x, 1), "4 aba abb abc abd");
        CHECK.same("the empty word", x.fill(1, 0, 63) + " " + x.has(1, 0), "1 true");
        CHECK.same("one letter", x.fill(2, 4, 1) + " " + Check.all(x, 2), "4 a b c d");
        CHECK.same("three gaps", x.fill(2, 84, 63), 64);
    }

    /** "by ORDER; those that do not FIT are left out". */
    private static void fillWhatFits() {
        Wordnet x = new Wordnet();
        CHECK.same("fill 4096 words", x.fill(0, 5460, 63), 120);
        CHECK.same("the first by order", x.words(0, 0, 1) + " " + x.words(0, 119, 1), "aaaaaa aabdbd");
        CHECK.same("fill a full one", x.fill(0, 1, 0), 0);
        CHECK.same("fill a full one with its words", x.fill(0, code("aaaaaa"), 32), 0);
        Wordnet y = full(0);
        y.take(0, 1);
        y.take(0, 2);
        CHECK.same("fill with room for two", y.fill(0, code("dddd"), 8), 2);
        CHECK.same("those that are ahead", y.has(0, code("dddb")) + " " + y.has(0, code("dddc")), "true false");
    }

    /** "Takes all WORDS from a NET that begin with a word": that word itself, too. */
    private static void prune() {
        Wordnet x = Check.with("", "a", "ab", "abcdab", "b");
        CHECK.same("prune six letters", x.prune(0, code("abcdab")), 1);
        CHECK.same("prune none", x.prune(0, 5460) + " " + x.prune(0, code("abc")), "0 0");
        CHECK.same("prune a word and what begins with it", x.prune(0, 1) + " " + Check.all(x, 0), "2 - b");
        CHECK.same("prune by the empty word", x.prune(0, 0) + " " + x.prune(0, 0), "2 0");
        CHECK.same("prune a full net", full(0).prune(0, 0), 120);
    }

    private static void clear() {
        Wordnet x = full(0);
        x.copy(1, 0);
        CHECK.same("clear a full net", x.clear(0) + " " + x.clear(0), "120 0");
        CHECK.same("the others keep their words", x.ofNet(1, 0), 120);
    }

    /** "Returns how many STATES fewer it has by that." */
    private static void least() {
        Wordnet x = Check.with("", "a");
        CHECK.same("least, where all states are unlike", x.least(0) + " " + x.ofNet(0, 3), "0 1");
        CHECK.same("least without words", x.least(1) + " " + x.ofNet(1, 1) + " " + x.ofNet(1, 3), "0 1 1");
        Wordnet y = new Wordnet();
        y.fill(0, code("aaa"), 7);
        CHECK.same("least of 85 states", y.least(0) + " " + y.least(0), "81 0");
        CHECK.same("its words stay", y.ofNet(0, 0) + " " + y.ofNet(0, 1), "64 4");
    }

    private static void loose() {
        Wordnet x = Check.with("ab", "cb");
        CHECK.same("loose of a loose one", x.loose(0), 0);
        x.least(0);
        CHECK.same("loose", x.loose(0) + " " + x.loose(0), "2 0");
        CHECK.same("loose it is", x.ofNet(0, 1) + " " + x.ofNet(0, 3), "5 0");
        x.least(1);
        CHECK.same("loose without words", x.loose(1) + " " + x.ofNet(1, 3), "0 0");
    }

    private static void mix() {
        for (int how = 0; how <= 3; how++) {
            Wordnet x = Check.with("a", "b");
            CHECK.same("with one without words by " + how, x.mix(0, 1, how), how == 1 ? 0 : 2);
            Wordnet y = Check.with("a", "b");
            CHECK.same("one without words by " + how, y.mix(1, 0, how), how == 0 || how == 3 ? 2 : 0);
            Wordnet z = Check.with("a", "b");
            CHECK.same("or the same by " + how, z.mix(0, 0, how) + " " + z.ofNet(0, 0), how < 2 ? "2 2" : "0 0");
            CHECK.same("both without words by " + how, z.mix(1, 2, how), 0);
        }
    }

    private static void mixWhenFull() {
        Wordnet x = full(0);
        x.sow(1, 60, 1, 60);
        x.sow(1, 120, 1, 60);
        CHECK.badState("180 by 0", x, () -> x.mix(0, 1, 0));
        CHECK.same("what would be 120 by 3", x.common(0, 1, 3), 120);
        CHECK.same("60 by 1", x.mix(2, 0, 0) + " " + x.mix(2, 1, 1), "120 60");
        CHECK.same("120 by 3", x.mix(0, 1, 3), 120);
        CHECK.same("only those of just one", x.has(0, 59) + " " + x.has(0, 60) + " " + x.has(0, 120), "true false true");
        CHECK.same("full by itself", x.mix(0, 0, 0), 120);
    }

    private static void copy() {
        Wordnet x = full(0);
        x.least(0);
        CHECK.same("copy a full one", x.copy(2, 0), 120);
        CHECK.same("least as the other", x.ofNet(2, 3) + " " + x.ofNet(2, 1), "1 " + x.ofNet(0, 1));
        CHECK.same("copy one without words", x.copy(2, 1), 0);
        CHECK.same("loose as the other", x.ofNet(2, 3) + " " + x.ofNet(2, 0), "0 0");
        for (int net = 0; net < 3; net++) {
            int same = net;
            CHECK.badArgument("both are the same, " + net, x, () -> x.copy(same, same));
        }
    }

    /** "then each goes its own way". */
    private static void copyGoesItsOwnWay() {
        Wordnet x = Check.with("ab", "bb");
        x.copy(1, 0);
        x.take(0, 6);
        x.least(1);
        CHECK.same("the one", Check.all(x, 0) + " " + x.ofNet(0, 1) + " " + x.ofNet(0, 3), "bb 3 0");
        CHECK.same("the other", Check.all(x, 1) + " " + x.ofNet(1, 1) + " " + x.ofNet(1, 3), "ab bb 3 1");
    }

    /** "how many WORDS are there then that were none before". */
    private static void turn() {
        Wordnet x = Check.with("", "a", "aba", "abba");
        CHECK.same("turn what is the same both ways", x.turn(0) + " " + Check.all(x, 0), "0 - a aba abba");
        Wordnet y = Check.with("ab", "ba", "abc");
        CHECK.same("turn two into each other", y.turn(0) + " " + Check.all(y, 0), "1 ab ba cba");
        Wordnet z = Check.with("abcdda");
        CHECK.same("turn six letters", z.turn(0) + " " + Check.all(z, 0), "1 addcba");
    }

    /** The words are "aa" with four more LETTERS; "aaaaaa", "aaabaa", "aabaaa" and "aabbaa" turn to these four. */
    private static void turnWhenFull() {
        Wordnet x = new Wordnet();
        x.fill(0, 5460, 63);
        CHECK.same("turn a full net", x.turn(0), 116);
        CHECK.same("it stays full", x.ofNet(0, 0), 120);
        CHECK.same("turned by order", x.words(0, 0, 3), "aaaaaa aaabaa aabaaa");
        CHECK.same("turn it back", x.turn(0) + " " + x.words(0, 0, 2), "116 aaaaaa aaaaab");
    }

    /** "Packs a NET as it is; the PACK has that then": and nothing of a longer one. */
    private static void pack() {
        Wordnet x = Check.with("abcdab", "b");
        CHECK.same("pack", x.pack(0) + " " + x.ofPack(0), "40 40");
        CHECK.same("pack one without words", x.pack(1) + " " + Check.pack(x), "5 0 -1 -1 -1 -1");
        x.poke(0, 9);
        x.least(0);
        CHECK.same("pack over a poked one", x.pack(0) + " " + x.ofPack(1), "35 -1");
        x.clear(0);
        CHECK.same("the pack stays", x.ofPack(0), 35);
        Wordnet y = new Wordnet();
        y.sow(0, 1400, 64, 60);
        y.sow(0, 1400 + 60 * 64, 1, 60);
        y.pack(0);
        CHECK.same("a large one is read back", y.unpack(1) + " " + y.parting(0, 1), "120 -1");
    }

    /** "Returns the one that was there." */
    private static void poke() {
        Wordnet x = Check.with("a");
        x.pack(0);
        CHECK.same("the first place", x.poke(0, Integer.MAX_VALUE) + " " + x.poke(0, 1), "0 2147483647");
        CHECK.same("the last place", x.poke(9, Integer.MIN_VALUE) + " " + x.poke(9, 0), "-1 -2147483648");
        CHECK.same("only there", Check.pack(x), "1 1 -1 -1 -1 1 -1 -1 -1 0");
        CHECK.outOfBounds("the place behind", x, () -> x.poke(10, 0));
        CHECK.outOfBounds("the place ahead", x, () -> x.poke(-1, 0));
    }

    private static void unpack() {
        Wordnet x = Check.with("ab", "c");
        Check.tell(x, 1, "d");
        CHECK.unchanged("EMPTY", x, -9, () -> x.unpack(1));
        x.pack(0);
        CHECK.same("no others", x.unpack(1) + " " + Check.all(x, 1), "2 ab c");
        x.pack(2);
        CHECK.same("no words", x.unpack(1) + " " + x.ofNet(1, 0), "0 0");
        x.poke(0, 1);
        CHECK.same("the empty word", x.unpack(1) + " " + x.has(1, 0), "1 true");
        for (int letter = 0; letter < 4; letter++) {
            x.poke(1 + letter, 0);
            CHECK.unchanged("a loop of " + letter, x, -6, () -> x.unpack(1));
            x.poke(1 + letter, -1);
        }
    }

    private static void gather() {
        Wordnet x = full(0);
        CHECK.same("gather 120 words", x.gather(0, 0, 0, 63) + " " + x.ofList(0), "120 120");
        CHECK.same("and no others", x.gather(0, 0, 5460, 0) + " " + x.ofList(0), "0 0");
        CHECK.same("gather one", x.gather(0, 3, 0, 0) + " " + x.listed(0), "1 0");
        CHECK.same("gather from a net without words", x.gather(1, 0, 0, 0) + " " + x.ofList(0), "0 0");
    }

    private static void spread() {
        Wordnet x = Check.with("a", "", "ab");
        CHECK.same("spread a list without words", x.spread(1) + " " + x.ofNet(1, 0), "0 0");
        x.gather(0, 0, 0, 0);
        CHECK.same("spread to the net it is from", x.spread(0), 0);
        CHECK.same("spread", x.spread(1) + " " + Check.all(x, 1), "3 - a ab");
        CHECK.same("the list stays", Check.list(x), "- a ab");
    }

    /** "by ORDER; those that do not FIT are left out". */
    private static void spreadWhatFits() {
        Wordnet x = full(0);
        Check.tell(x, 1, "dddddd", "dddddc", "dddddb", "a");
        x.gather(1, 0, 0, 0);
        CHECK.same("spread to a full net", x.spread(0), 0);
        x.take(0, 7);
        x.take(0, 8);
        CHECK.same("spread with room for two", x.spread(0), 2);
        CHECK.same("those that are ahead", x.has(0, 5458) + " " + x.has(0, 5459) + " " + x.has(0, 5460), "true true false");
        x.gather(0, 0, 0, 0);
        CHECK.same("spread 120 words", x.spread(2) + " " + x.parting(0, 2), "120 -1");
    }

    private static void listPoll() {
        for (boolean isLast : new boolean[] {false, true}) {
            Wordnet x = Check.with("", "dddddd");
            CHECK.unchanged("EMPTY, " + isLast, x, -9, () -> x.listPoll(isLast));
            x.gather(0, 0, 0, 0);
            CHECK.same("of two, " + isLast, x.listPoll(isLast), isLast ? 5460 : 0);
            CHECK.same("of one, " + isLast, x.listPoll(isLast), isLast ? 0 : 5460);
            CHECK.unchanged("EMPTY again, " + isLast, x, -9, () -> x.listPoll(isLast));
        }
        Wordnet x = full(0);
        x.gather(0, 0, 0, 0);
        for (int k = 0; k < 60; k++) {
            CHECK.same("the first of many", x.listPoll(false), x.atRank(0, k));
            CHECK.same("the last of many", x.listPoll(true), x.atRank(0, 119 - k));
        }
        CHECK.same("EMPTY at last", x.listPoll(true), -9);
    }

    private static void say() {
        Wordnet x = new Wordnet();
        CHECK.same("say nothing at first", x.say(0), 0);
        for (int k = 1; k <= 60; k++) {
            CHECK.same("say one letter", x.say(1 + k % 4), k);
        }
        CHECK.badState("more than 60", x, () -> x.say(1));
        CHECK.badState("many more than 60", x, () -> x.say(5460));
        CHECK.same("nothing more", x.say(0), 60);
        CHECK.same("the whole text", x.text(), "bcda".repeat(15));
        x.hush();
        CHECK.same("say after it was full", x.say(code("abcdab")) + " " + x.text(), "6 abcdab");
    }

    private static void hush() {
        Wordnet x = new Wordnet();
        CHECK.same("hush no text", x.hush(), 0);
        for (int k = 0; k < 10; k++) {
            x.say(5460);
        }
        CHECK.same("hush a full text", x.hush() + " " + x.hush() + " " + x.text(), "60 0 ");
    }

    private static void enter() {
        Wordnet x = full(0);
        CHECK.same("enter a full net", x.enter(0), 120);
        x.step(0);
        CHECK.same("enter the last net", x.enter(2), 0);
        CHECK.same("at the empty text", x.cursor(0) + " " + x.cursor(1) + " " + x.cursor(2), "2 0 0");
        CHECK.same("enter the first net again", x.enter(0) + " " + x.cursor(1), "120 0");
    }

    private static void step() {
        Wordnet x = Check.with("dddddd", "a");
        for (int k = 1; k <= 6; k++) {
            CHECK.unchanged("VOID", x, -8, () -> x.step(-1));
            CHECK.same("step " + k, x.step(3) + " " + x.cursor(2), "1 " + k);
        }
        CHECK.unchanged("it stays where it is, at six letters", x, -1, () -> x.step(3));
        Wordnet y = Check.with("a");
        y.enter(1);
        for (int letter = 0; letter < 4; letter++) {
            int to = letter;
            CHECK.unchanged("it stays where it is, to " + letter, y, -1, () -> y.step(to));
        }
        CHECK.same("a beginning of another net is none", y.enter(0) + " " + y.step(0), "1 1");
        y.clear(0);
        CHECK.unchanged("VOID, where no beginning is", y, -8, () -> y.step(-1));
    }

    private static void back() {
        Wordnet x = Check.with("dcba");
        x.enter(0);
        CHECK.unchanged("EMPTY", x, -9, x::back);
        for (int letter = 3; letter >= 0; letter--) {
            x.step(letter);
        }
        x.clear(0);
        CHECK.same("back to the empty text", x.back() + " " + x.back() + " " + x.back() + " " + x.back(), "0 1 2 3");
        CHECK.unchanged("EMPTY again", x, -9, x::back);
    }

    private static void knock() {
        Wordnet x = new Wordnet();
        CHECK.same("the first", x.knock(), 1);
        CHECK.same("of all that ever knocked", x.enter(1) + x.clear(0) + x.hush() + x.knock(), 2);
        CHECK.same("another object has its own", new Wordnet().knock(), 1);
    }
}
