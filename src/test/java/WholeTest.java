/** Promises 57 and 58: isSound and digest. */
public final class WholeTest {
    private static final Check CHECK = new Check();

    public static void main(String[] args) {
        digestOfNew();
        digestOfSome();
        digestTellsChanges();
        sound();
        soundWhereEndsLookAlike();
        bothChangeNothing();
        CHECK.end();
    }

    private static long digestOf(int... values) {
        long d = 5305;
        for (int value : values) {
            d = d * 31 + value;
        }
        return d;
    }

    private static void digestOfNew() {
        CHECK.same("digest of a new one", new Wordnet().digest(), digestOf(
                0, 1, 0, 0, 1, 1, -1, -1, -1, -1, 0, -1, -1, -1, 0, 0, 0, 0, 0, -1, -1, 0, -1, -1, -1, 0,
                0, 1, 0, 0, 1, 1, -1, -1, -1, -1, 0, -1, -1, -1, 0, 0, 0, 0, 0, -1, -1, 0, -1, -1, -1, 0,
                0, 1, 0, 0, 1, 1, -1, -1, -1, -1, 0, -1, -1, -1, 0, 0, 0, 0, 0, -1, -1, 0, -1, -1, -1, 0,
                -1, -1, -1, 0, 0, 0, 0, 0, 0, -9, -9, 0, 0, -1, 0, 0, 0, 0, 0, 0, 0, 1));
    }

    /** Every number of the row is worked out by hand from the document. */
    private static void digestOfSome() {
        Wordnet x = Check.with("a", "abc", "bab");
        Check.tell(x, 1, "", "ab");
        x.least(1);
        x.say(Check.code("babab"));
        x.gather(0, 0, 1, 0);
        x.pack(1);
        x.poke(6, 3);
        x.enter(1);
        x.step(0);
        x.knock();
        x.knock();
        CHECK.same("digest", x.digest(), digestOf(
                3, 7, 6, 0, 6, 7, 3, 1, 1, 38, 1, 27, 38, 3, 1, 3, 5, 2, 1, 3, 0, 3, 27, 2, 4, 1, 1, 1, 9,
                2, 3, 2, 1, 3, 3, 2, 0, 0, 6, 0, 6, 1, 1, 2, -1, 1, 0, 1, 1, 1, 6, 0, 2, 1, 2, 6, 9,
                0, 1, 0, 0, 1, 1, -1, -1, -1, -1, 0, -1, -1, -1, 0, 0, 0, 0, 0, -1, -1, 0, -1, -1, -1, 19,
                0, 1, 0, 5, 0, 3, 5, 5, 2, 1, 27, 4, 15, 6, 9, 1, 1, 1, 0, 1, 2, 1));
    }

    private static void digestTellsChanges() {
        Wordnet x = new Wordnet();
        long before = x.digest();
        x.knock();
        CHECK.same("digest behind a knock", x.digest() != before, true);
        before = x.digest();
        x.least(2);
        CHECK.same("digest behind least", x.digest() != before, true);
    }

    private static void sound() {
        Wordnet x = new Wordnet();
        CHECK.same("a new one is sound", x.isSound(), true);
        x.sow(0, 1365, 61, 60);
        x.sow(0, 7, 13, 60);
        x.fill(1, 5460, 63);
        x.tell(2, 0);
        CHECK.same("three nets are sound", x.isSound(), true);
        x.least(0);
        x.copy(2, 0);
        x.turn(1);
        CHECK.same("two like nets are sound", x.isSound(), true);
        x.pack(0);
        x.poke(0, 77);
        x.enter(0);
        x.step(0);
        x.clear(0);
        CHECK.same("a bad pack and a lost cursor are sound", x.isSound(), true);
    }

    /** 31 * 1 + 35 is 31 * 2 + 4: a sum of the CODES of ENDS by 31 can't tell these of "a" and "c" from those of "b". */
    private static void soundWhereEndsLookAlike() {
        Wordnet x = Check.with("aa", "aadc", "bb", "bd", "ca", "cadc");
        CHECK.same("ends that look alike", x.isSound(), true);
        CHECK.same("least states with such ends", x.ofNet(0, 4), 6);
        Check.tell(x, 0, "da", "dadc");
        Check.tell(x, 1, "ab", "ad", "ba", "badc", "cb", "cd", "da", "dadc");
        CHECK.same("more ends that look alike", x.isSound(), true);
    }

    private static void bothChangeNothing() {
        Wordnet x = Check.with("ab", "bb", "c");
        x.gather(0, 0, 2, 0);
        x.least(1);
        x.pack(0);
        String pack = Check.pack(x);
        x.isSound();
        x.digest();
        CHECK.same("the pack behind both", Check.pack(x), pack);
        CHECK.same("the list behind both", Check.list(x), "bb");
        CHECK.same("the words behind both", Check.all(x, 0), "ab bb c");
        CHECK.same("a loose net behind both", x.ofNet(0, 3), 0);
        CHECK.same("a least net behind both", x.ofNet(1, 3), 1);
        CHECK.same("the cursor behind both", x.cursor(1), 0);
    }
}
