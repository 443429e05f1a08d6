/** Promises 19, 20, 44, 45 and 47 to 50: the text, and what stands in it. */
public final class TextTest {
    private static final Check CHECK = new Check();

    public static void main(String[] args) {
        say();
        hush();
        sign();
        matches();
        match();
        longest();
        cut();
        cutWhole();
        CHECK.end();
    }

    private static void say(Wordnet x, String text) {
        for (int from = 0; from < text.length(); from += 6) {
            x.say(Check.code(text.substring(from, Math.min(from + 6, text.length()))));
        }
    }

    private static void say() {
        Wordnet x = new Wordnet();
        CHECK.same("say", x.say(Check.code("abc")), 3);
        CHECK.same("say nothing", x.say(0), 3);
        CHECK.same("say more", x.say(Check.code("dddddd")), 9);
        CHECK.same("said", x.text(), "abcdddddd");
        CHECK.onlyCodes("say", x, x::say);
        x.hush();
        for (int k = 1; k <= 9; k++) {
            x.say(5460);
        }
        x.say(Check.code("abcda"));
        CHECK.badState("say above 60", x, () -> x.say(5));
        CHECK.badArgument("say no code above 60", x, () -> x.say(5461));
        CHECK.same("say up to 60", x.say(1), 60);
        CHECK.badState("say when full", x, () -> x.say(1));
        CHECK.same("say nothing when full", x.say(0), 60);
        CHECK.same("said up to 60", x.text().substring(53), "dabcdaa");
    }

    private static void hush() {
        Wordnet x = new Wordnet();
        CHECK.same("hush nothing", x.hush(), 0);
        x.say(Check.code("abcd"));
        CHECK.same("hush", x.hush(), 4);
        CHECK.same("hushed", x.text(), "");
        x.say(2);
        CHECK.same("said anew", x.text(), "b");
    }

    private static void sign() {
        Wordnet x = new Wordnet();
        CHECK.same("sign of nothing", x.sign(0), -9);
        x.say(Check.code("abcd"));
        for (int place = 0; place < 4; place++) {
            CHECK.same("sign " + place, x.sign(place), place);
        }
        for (int place : new int[] {-1, 4, 60, Integer.MIN_VALUE, Integer.MAX_VALUE}) {
            CHECK.same("sign " + place, x.sign(place), -9);
        }
        x.hush();
        CHECK.same("sign when hushed", x.sign(0), -9);
    }

    private static void matches() {
        Wordnet x = Check.with("", "a", "ab", "bab", "abab", "c");
        CHECK.same("matches in nothing", x.matches(0), 0);
        say(x, "ababab");
        CHECK.same("matches", x.matches(0), 3 + 3 + 2 + 2);
        CHECK.same("matches of another net", x.matches(1), 0);
        x.tell(1, 0);
        CHECK.same("matches of the empty word", x.matches(1), 0);
        x.tell(2, Check.code("ababab"));
        CHECK.same("matches of the whole", x.matches(2), 1);
        CHECK.noSuchNet("matches", x, x::matches);
    }

    /** Each MATCH in a row: where it begins, where it ends, and its word. */
    private static void match() {
        Wordnet x = Check.with("", "a", "b", "ab", "bab", "d");
        say(x, "cbab");
        String[] due = {"1 1 b", "2 2 a", "1 3 bab", "2 3 ab", "3 3 b"};
        for (int nth = 0; nth < due.length; nth++) {
            String got = x.match(0, nth, 0) + " " + x.match(0, nth, 1) + " " + Check.word(x.match(0, nth, 2));
            CHECK.same("match " + nth, got, due[nth]);
        }
        Check.tell(x, 2, "c", "cb");
        CHECK.same("match of one letter at the beginning", x.match(2, 0, 2), 3);
        CHECK.same("match of two letters at the beginning", x.match(2, 1, 0), 0);
        for (int what = 0; what <= 2; what++) {
            CHECK.same("match 5, " + what, x.match(0, 5, what), -1);
            CHECK.same("match of another net, " + what, x.match(1, 0, what), -1);
        }
        CHECK.same("match far", x.match(0, Integer.MAX_VALUE, 0), -1);
        CHECK.noSuchNet("match", x, net -> x.match(net, 0, 0));
        CHECK.badArgument("match -1", x, () -> x.match(0, -1, 0));
        CHECK.onlyFrom("match what", x, 0, 2, what -> x.match(0, 0, what));
        CHECK.outOfBounds("match of no net and no nth", x, () -> x.match(3, -1, 3));
    }

    private static void longest() {
        Wordnet x = Check.with("a", "ab", "abca", "b");
        say(x, "cabcab");
        int[] due = {-1, 4, 1, -1, 2, 1, -1};
        for (int place = 0; place <= 6; place++) {
            CHECK.same("longest at " + place, x.longest(0, place), due[place]);
        }
        x.tell(0, 0);
        CHECK.same("longest the empty one", x.longest(0, 0), 0);
        CHECK.same("longest at the end", x.longest(0, 6), 0);
        CHECK.same("longest of a word that does not end", x.longest(0, 4), 2);
        CHECK.noSuchNet("longest", x, net -> x.longest(net, 0));
        for (int place : new int[] {-1, 7, Integer.MIN_VALUE, Integer.MAX_VALUE}) {
            CHECK.outOfBounds("longest at " + place, x, () -> x.longest(0, place));
        }
        CHECK.same("longest in nothing", new Wordnet().longest(0, 0), -1);
    }

    private static void cut() {
        Wordnet x = Check.with("a", "ab", "abca", "d");
        CHECK.same("cut nothing", x.cut(0), "");
        say(x, "abcd");
        CHECK.same("cut", x.cut(0), "ab|(c)|d");
        say(x, "abcaab");
        CHECK.same("cut the longest", x.cut(0), "ab|(c)|d|abca|ab");
        x.tell(0, 0);
        CHECK.same("cut with the empty word", x.cut(0), "ab|(c)|d|abca|ab");
        CHECK.same("cut by no words", x.cut(1), "(a)|(b)|(c)|(d)|(a)|(b)|(c)|(a)|(a)|(b)");
        CHECK.noSuchNet("cut", x, x::cut);
    }

    private static void cutWhole() {
        Wordnet x = Check.with("abcdab");
        for (int k = 0; k < 10; k++) {
            x.say(Check.code("abcdab"));
        }
        String piece = "abcdab";
        CHECK.same("cut 60", x.cut(0), (piece + "|").repeat(9) + piece);
        CHECK.same("matches in 60", x.matches(0), 10);
        CHECK.same("match 9 in 60", x.match(0, 9, 1), 59);
        CHECK.same("longest at 60", x.longest(0, 60), -1);
        CHECK.same("cut 60 by none", x.cut(1).length(), 60 * 3 + 59);
    }
}
