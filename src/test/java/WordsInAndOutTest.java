/** Promises 1 to 7: a new object, tell, take, sow, fill, prune, clear. */
public final class WordsInAndOutTest {
    private static final Check CHECK = new Check();

    public static void main(String[] args) {
        newObject();
        tell();
        tellWhenFull();
        take();
        sow();
        sowWhenFull();
        fill();
        fillWhenFull();
        prune();
        clear();
        CHECK.end();
    }

    /** 120 words; the last of them all, "dddddd", is not among them. */
    static Wordnet full() {
        Wordnet x = new Wordnet();
        x.sow(0, 0, 1, 60);
        x.sow(0, 60, 1, 60);
        return x;
    }

    private static void newObject() {
        Wordnet x = new Wordnet();
        int[] due = {0, 1, 0, 0, 1, 1, -1, -1, -1, -1};
        for (int net = 0; net < 3; net++) {
            for (int what = 0; what <= 9; what++) {
                CHECK.same("new: ofNet of " + net + ", " + what, x.ofNet(net, what), due[what]);
            }
        }
        CHECK.same("new: text", x.text(), "");
        CHECK.same("new: list", x.ofList(0), 0);
        CHECK.same("new: pack", x.ofPack(0), 0);
        for (int what = 0; what <= 4; what++) {
            CHECK.same("new: cursor " + what, x.cursor(what), 0);
        }
        CHECK.same("new: knock", x.knock(), 1);
        CHECK.same("another new one: knock", new Wordnet().knock(), 1);
    }

    private static void tell() {
        Wordnet x = new Wordnet();
        CHECK.same("tell a new one", x.tell(0, 27), true);
        CHECK.same("tell it again", x.tell(0, 27), false);
        CHECK.same("tell it another net", x.tell(2, 27), true);
        CHECK.same("tell the empty one", x.tell(0, 0), true);
        CHECK.same("tell the empty one again", x.tell(0, 0), false);
        CHECK.same("tell the last of all", x.tell(0, 5460), true);
        CHECK.same("told words", Check.all(x, 0), "- abc dddddd");
        CHECK.same("told words of net 1", Check.all(x, 1), "");
        CHECK.same("told words of net 2", Check.all(x, 2), "abc");
        CHECK.noSuchNet("tell", x, net -> x.tell(net, 1));
        CHECK.onlyCodes("tell", x, code -> x.tell(1, code));
        CHECK.outOfBounds("tell of no net and no code", x, () -> x.tell(3, -1));
    }

    private static void tellWhenFull() {
        Wordnet x = full();
        CHECK.same("a full net", x.ofNet(0, 0), 120);
        CHECK.same("tell one that is there when full", x.tell(0, 119), false);
        CHECK.badState("tell a new one when full", x, () -> x.tell(0, 120));
        CHECK.badArgument("tell no code when full", x, () -> x.tell(0, 5461));
        CHECK.same("tell another net", x.tell(1, 120), true);
        x.take(0, 5);
        CHECK.same("tell when there is room again", x.tell(0, 120), true);
        CHECK.badState("tell when there is none again", x, () -> x.tell(0, 5));
    }

    private static void take() {
        Wordnet x = Check.with("", "ab", "abc", "b");
        CHECK.same("take", x.take(0, Check.code("ab")), true);
        CHECK.same("take again", x.take(0, Check.code("ab")), false);
        CHECK.same("take a beginning", x.take(0, Check.code("a")), false);
        CHECK.same("take from another net", x.take(1, Check.code("b")), false);
        CHECK.same("after take", Check.all(x, 0), "- abc b");
        CHECK.same("take the empty one", x.take(0, 0), true);
        CHECK.same("after take of the empty one", Check.all(x, 0), "abc b");
        CHECK.noSuchNet("take", x, net -> x.take(net, 1));
        CHECK.onlyCodes("take", x, code -> x.take(0, code));
        CHECK.outOfBounds("take of no net and no code", x, () -> x.take(-1, 5461));
        x.least(0);
        x.take(0, Check.code("b"));
        CHECK.same("take leaves it least", x.ofNet(0, 3), 1);
    }

    private static void sow() {
        Wordnet x = new Wordnet();
        CHECK.same("sow", x.sow(0, 0, 1, 5), 5);
        CHECK.same("sown", Check.all(x, 0), "- a b c d");
        CHECK.same("sow with step 0", x.sow(0, 27, 0, 3), 1);
        CHECK.same("sow round", x.sow(0, 5460, 1, 3), 1);
        CHECK.same("sown round", Check.all(x, 0), "- a abc b c d dddddd");
        CHECK.same("sow back", x.sow(1, 2, 5460, 4), 4);
        CHECK.same("sown back", Check.all(x, 1), "- a b dddddd");
        CHECK.same("sow far", x.sow(2, 5460, 5459, 60), 60);
        CHECK.same("sown far", x.has(2, 5460 - 2 * 59), true);
        CHECK.noSuchNet("sow", x, net -> x.sow(net, 0, 1, 1));
        CHECK.onlyCodes("sow from", x, from -> x.sow(1, from, 1, 1));
        CHECK.onlyCodes("sow step", x, step -> x.sow(1, 1, step, 1));
        CHECK.onlyFrom("sow many", x, 1, 60, many -> x.sow(1, 1, 1, many));
        CHECK.outOfBounds("sow of no net and no many", x, () -> x.sow(3, -1, -1, 0));
    }

    private static void sowWhenFull() {
        Wordnet x = full();
        x.take(0, 7);
        CHECK.same("sow with room for one", x.sow(0, 5460, 5460, 3), 1);
        CHECK.same("the first sown fits", x.has(0, 5460), true);
        CHECK.same("the second sown does not", x.has(0, 5459), false);
        CHECK.same("sow without room", x.sow(0, 5000, 1, 9), 0);
        CHECK.same("still full", x.ofNet(0, 0), 120);
    }

    private static void fill() {
        Wordnet x = Check.with("cb", "b");
        CHECK.same("fill", x.fill(0, Check.code("ab"), 1), 3);
        CHECK.same("filled", Check.all(x, 0), "ab b bb cb db");
        CHECK.same("fill the other place", x.fill(1, Check.code("ab"), 2), 4);
        CHECK.same("filled the other place", Check.all(x, 1), "aa ab ac ad");
        CHECK.same("fill without gaps", x.fill(2, Check.code("abc"), 0), 1);
        CHECK.same("fill with gaps behind the word", x.fill(2, Check.code("abc"), 56), 0);
        CHECK.same("fill the empty one", x.fill(2, 0, 63), 1);
        CHECK.same("filled net 2", Check.all(x, 2), "- abc");
        x.clear(2);
        CHECK.same("fill two places", x.fill(2, Check.code("abc"), 5), 16);
        CHECK.same("filled two places", x.words(2, 2, 5), "abc abd bba bbb bbc");
        CHECK.noSuchNet("fill", x, net -> x.fill(net, 0, 1));
        CHECK.onlyCodes("fill", x, code -> x.fill(1, code, 0));
        CHECK.onlyFrom("fill gaps", x, 0, 63, gaps -> x.fill(1, 5, gaps));
        CHECK.outOfBounds("fill of no net and no code", x, () -> x.fill(3, -1, 64));
    }

    private static void fillWhenFull() {
        Wordnet x = Check.with("dddddd", "aaaaab");
        CHECK.same("fill more than fit", x.fill(0, Check.code("dcbabc"), 63), 118);
        CHECK.same("filled by order", x.words(0, 0, 3), "aaaaaa aaaaab aaaaac");
        CHECK.same("filled up to", x.words(0, 117, 3), "aabdbb aabdbc dddddd");
        CHECK.same("fill a full one", x.fill(0, Check.code("ab"), 3), 0);
    }

    private static void prune() {
        Wordnet x = Check.with("", "a", "ab", "abc", "abcd", "ac", "b", "bab");
        CHECK.same("prune", x.prune(0, Check.code("ab")), 3);
        CHECK.same("pruned", Check.all(x, 0), "- a ac b bab");
        CHECK.same("prune again", x.prune(0, Check.code("ab")), 0);
        CHECK.same("prune another net", x.prune(1, Check.code("b")), 0);
        CHECK.same("prune a beginning", x.prune(0, Check.code("ba")), 1);
        CHECK.same("prune all", x.prune(0, 0), 4);
        CHECK.same("pruned all", x.ofNet(0, 0), 0);
        CHECK.noSuchNet("prune", x, net -> x.prune(net, 0));
        CHECK.onlyCodes("prune", x, code -> x.prune(0, code));
        CHECK.outOfBounds("prune of no net and no code", x, () -> x.prune(3, -1));
    }

    private static void clear() {
        Wordnet x = Check.with("", "ab", "d");
        Check.tell(x, 1, "c");
        x.least(0);
        CHECK.same("clear", x.clear(0), 3);
        CHECK.same("cleared", x.ofNet(0, 0), 0);
        CHECK.same("clear again", x.clear(0), 0);
        CHECK.same("clear leaves it least", x.ofNet(0, 3), 1);
        CHECK.same("the other net stays", Check.all(x, 1), "c");
        CHECK.noSuchNet("clear", x, x::clear);
    }
}
