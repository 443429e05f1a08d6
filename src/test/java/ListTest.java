/** Promises 16 to 18, 36 and 51 to 53: words chosen, and the list of them. */
public final class ListTest {
    private static final Check CHECK = new Check();
    private static final String[] WORDS = {"", "a", "ab", "abc", "ba", "bab", "cab", "cabd"};

    public static void main(String[] args) {
        chosen();
        gather();
        count();
        spread();
        poll();
        listed();
        ofList();
        listBetween();
        CHECK.end();
    }

    /** gather() and count() have to choose the same. */
    private static void choose(Wordnet x, int how, String w, int extra, String due) {
        String what = "by " + how + " with " + w + " and " + extra;
        int many = due.isEmpty() ? 0 : due.split(" ").length;
        CHECK.same("count " + what, x.count(0, how, Check.code(w), extra), many);
        CHECK.same("gather " + what, x.gather(0, how, Check.code(w), extra), many);
        CHECK.same("gathered " + what, Check.list(x), due);
    }

    private static void chosen() {
        Wordnet x = Check.with(WORDS);
        String all = Check.all(x, 0);
        choose(x, 0, "ab", 0, "ab abc");
        choose(x, 0, "ab", 63, "ab abc");
        choose(x, 0, "", 0, all);
        choose(x, 0, "abcabc", 0, "");
        choose(x, 1, "ab", 0, "ab bab cab");
        choose(x, 1, "", 63, all);
        choose(x, 1, "cabd", 5, "cabd");
        choose(x, 2, "dab", 1, "bab cab");
        choose(x, 2, "dab", 0, "");
        choose(x, 2, "bab", 0, "bab");
        choose(x, 2, "bab", 56, "bab");
        choose(x, 2, "ddd", 7, "abc bab cab");
        choose(x, 2, "add", 6, "abc");
        choose(x, 2, "dda", 3, "");
        choose(x, 2, "", 0, "-");
        choose(x, 3, "ab", 0, "ab");
        choose(x, 3, "ab", 1, "a ab abc bab cab");
        choose(x, 3, "ab", 2, all);
        choose(x, 3, "dddddd", 5, "cabd");
        choose(x, 3, "dddddd", 63, all);
        choose(x, 4, "ab", 0, "ab abc bab cab cabd");
        choose(x, 4, "ba", 0, "ba bab");
        choose(x, 4, "", 0, all);
        choose(x, 4, "bd", 9, "cabd");
    }

    private static void gather() {
        Wordnet x = Check.with(WORDS);
        x.gather(0, 0, 0, 0);
        CHECK.same("gather from another net", x.gather(1, 0, 0, 0), 0);
        CHECK.same("gathered no others", x.ofList(0), 0);
        x.gather(0, 0, 0, 0);
        x.clear(0);
        CHECK.same("the list stays", x.ofList(0), 8);
        CHECK.noSuchNet("gather", x, net -> x.gather(net, 0, 0, 0));
        CHECK.onlyFrom("gather how", x, 0, 4, how -> x.gather(0, how, 0, 0));
        CHECK.onlyCodes("gather", x, code -> x.gather(0, 0, code, 0));
        CHECK.onlyFrom("gather extra", x, 0, 63, extra -> x.gather(0, 0, 0, extra));
        CHECK.outOfBounds("gather of no net and no how", x, () -> x.gather(3, 5, -1, 64));
    }

    private static void count() {
        Wordnet x = Check.with(WORDS);
        x.gather(0, 3, Check.code("ab"), 1);
        x.count(0, 0, 0, 0);
        CHECK.same("count leaves the list", x.ofList(0), 5);
        CHECK.noSuchNet("count", x, net -> x.count(net, 0, 0, 0));
        CHECK.onlyFrom("count how", x, 0, 4, how -> x.count(0, how, 0, 0));
        CHECK.onlyCodes("count", x, code -> x.count(0, 0, code, 0));
        CHECK.onlyFrom("count extra", x, 0, 63, extra -> x.count(0, 0, 0, extra));
        CHECK.outOfBounds("count of no net and no how", x, () -> x.count(-1, -1, -1, -1));
    }

    private static void spread() {
        Wordnet x = Check.with(WORDS);
        Check.tell(x, 1, "ab", "d");
        CHECK.same("spread no list", x.spread(1), 0);
        x.gather(0, 1, Check.code("ab"), 0);
        CHECK.same("spread", x.spread(1), 2);
        CHECK.same("spread words", Check.all(x, 1), "ab bab cab d");
        CHECK.same("the list stays", x.ofList(0), 3);
        CHECK.same("spread again", x.spread(1), 0);
        CHECK.noSuchNet("spread", x, x::spread);
        Wordnet y = WordsInAndOutTest.full();
        Check.tell(y, 1, "dddddd", "ccccc", "aaaaaa");
        y.gather(1, 0, 0, 0);
        y.take(0, 0);
        y.take(0, 1);
        CHECK.same("spread with room for two", y.spread(0), 2);
        CHECK.same("the second by order fits", y.has(0, Check.code("ccccc")), true);
        CHECK.same("the third by order does not", y.has(0, Check.code("dddddd")), false);
    }

    private static void poll() {
        Wordnet x = Check.with("a", "", "d", "ab");
        CHECK.same("poll the first of none", x.listPoll(false), -9);
        CHECK.same("poll the last of none", x.listPoll(true), -9);
        x.gather(0, 0, 0, 0);
        CHECK.same("poll the first", x.listPoll(false), 0);
        CHECK.same("poll the last", x.listPoll(true), Check.code("d"));
        CHECK.same("polled list", Check.list(x), "a ab");
        CHECK.same("poll the last but one", x.listPoll(true), Check.code("ab"));
        CHECK.same("poll the only one", x.listPoll(false), 1);
        CHECK.same("poll none", x.listPoll(false), -9);
        CHECK.same("the net stays", Check.all(x, 0), "- a ab d");
    }

    private static void listed() {
        Wordnet x = Check.with("a", "", "ab");
        CHECK.same("listed of none", x.listed(0), -1);
        x.gather(0, 0, 0, 0);
        CHECK.same("listed 0", x.listed(0), 0);
        CHECK.same("listed 2", x.listed(2), Check.code("ab"));
        CHECK.same("listed 3", x.listed(3), -1);
        CHECK.same("listed far", x.listed(Integer.MAX_VALUE), -1);
        CHECK.badArgument("listed -1", x, () -> x.listed(-1));
        CHECK.badArgument("listed far below", x, () -> x.listed(Integer.MIN_VALUE));
    }

    private static void ofList() {
        Wordnet x = Check.with("a", "d", "abcdab");
        int[] none = {0, -9, -9, 0};
        for (int what = 0; what <= 3; what++) {
            CHECK.same("ofList of none " + what, x.ofList(what), none[what]);
        }
        x.gather(0, 0, 0, 0);
        int[] due = {3, 1, 4, 8};
        for (int what = 0; what <= 3; what++) {
            CHECK.same("ofList " + what, x.ofList(what), due[what]);
        }
        CHECK.onlyFrom("ofList", x, 0, 3, x::ofList);
    }

    private static void between(Wordnet x, String from, String to, int due) {
        CHECK.same("listBetween " + from + " and " + to, x.listBetween(Check.code(from), Check.code(to)), due);
    }

    private static void listBetween() {
        Wordnet x = Check.with("", "a", "ab", "b", "dddddd");
        between(x, "", "d", 0);
        x.gather(0, 0, 0, 0);
        between(x, "", "dddddd", 4);
        between(x, "", "b", 3);
        between(x, "a", "b", 2);
        between(x, "aa", "c", 2);
        between(x, "ab", "ab", 0);
        between(x, "b", "ab", -7);
        between(x, "aaaaaa", "a", -7);
        between(x, "a", "aaaaaa", 1);
        CHECK.onlyCodes("listBetween", x, code -> x.listBetween(code, 5460));
        CHECK.onlyCodes("listBetween of other", x, other -> x.listBetween(0, other));
        CHECK.badArgument("listBetween of no code behind", x, () -> x.listBetween(5461, 0));
    }
}
