/** Promises 13 to 15, 54 and 55: the pack. */
public final class PackTest {
    private static final Check CHECK = new Check();

    public static void main(String[] args) {
        pack();
        poke();
        unpack();
        unpackOutOfPlace();
        unpackTooLong();
        unpackTooMany();
        ofPack();
        CHECK.end();
    }

    private static void pack() {
        Wordnet x = Check.with("ab", "bb", "c");
        CHECK.same("pack a loose net", x.pack(0), 30);
        CHECK.same("packed loose", Check.pack(x), "0 1 2 3 -1 0 -1 4 -1 -1 0 -1 5 -1 -1 "
                + "1 -1 -1 -1 -1 1 -1 -1 -1 -1 1 -1 -1 -1 -1");
        x.least(0);
        CHECK.same("the pack stays", x.ofPack(0), 30);
        CHECK.same("pack a least net", x.pack(0), 15);
        CHECK.same("packed least", Check.pack(x), "0 1 1 2 -1 0 -1 2 -1 -1 1 -1 -1 -1 -1");
        x.clear(0);
        CHECK.same("the pack stays again", x.ofPack(0), 15);
        CHECK.same("pack without words", x.pack(1), 5);
        CHECK.same("packed without words", Check.pack(x), "0 -1 -1 -1 -1");
        x.tell(1, 0);
        x.pack(1);
        CHECK.same("packed the empty word", Check.pack(x), "1 -1 -1 -1 -1");
        CHECK.noSuchNet("pack", x, x::pack);
        Wordnet y = WordsInAndOutTest.full();
        y.clear(0);
        y.sow(0, 1365, 33, 60);
        y.sow(0, 1365 + 60 * 33, 33, 60);
        CHECK.same("pack of many states", y.pack(0), 5 * y.ofNet(0, 5));
    }

    private static void poke() {
        Wordnet x = Check.with("a");
        CHECK.outOfBounds("poke no pack", x, () -> x.poke(0, 0));
        CHECK.outOfBounds("packed of no pack", x, () -> x.packed(0));
        x.pack(0);
        CHECK.same("poke", x.poke(1, 77), 1);
        CHECK.same("poke again", x.poke(1, Integer.MIN_VALUE), 77);
        CHECK.same("poked", x.packed(1), Integer.MIN_VALUE);
        CHECK.same("poke the last", x.poke(9, 3), -1);
        CHECK.same("poked the last", Check.pack(x), "0 -2147483648 -1 -1 -1 1 -1 -1 -1 3");
        CHECK.same("the net stays", Check.all(x, 0), "a");
        for (int place : new int[] {-1, 10, Integer.MIN_VALUE, Integer.MAX_VALUE}) {
            CHECK.outOfBounds("poke at " + place, x, () -> x.poke(place, 0));
            CHECK.outOfBounds("packed at " + place, x, () -> x.packed(place));
        }
    }

    private static void unpack() {
        Wordnet x = Check.with("", "ab", "b");
        Check.tell(x, 1, "dd");
        x.least(1);
        CHECK.same("unpack no pack", x.unpack(1), -9);
        CHECK.same("unpacked nothing", Check.all(x, 1), "dd");
        x.pack(0);
        CHECK.same("unpack", x.unpack(1), 3);
        CHECK.same("unpacked", Check.all(x, 1), "- ab b");
        CHECK.same("unpack leaves it least", x.ofNet(1, 3), 1);
        x.least(0);
        x.pack(0);
        x.poke(1, 2);
        CHECK.same("unpack a poked one", x.unpack(2), 3);
        CHECK.same("unpacked a poked one", Check.all(x, 2), "- a b");
        CHECK.same("unpack leaves it loose", x.ofNet(2, 3), 0);
        Wordnet y = Check.with("a", "b", "ca", "cb");
        y.pack(0);
        y.poke(5, 0);
        CHECK.same("unpack behind a text without words", y.unpack(0), 3);
        CHECK.same("unpacked behind a text without words", Check.all(y, 0), "b ca cb");
        x.poke(0, 0);
        x.poke(1, -1);
        x.poke(2, -1);
        CHECK.same("unpack no words", x.unpack(2), 0);
        CHECK.same("unpacked no words", x.ofNet(2, 0), 0);
        CHECK.noSuchNet("unpack", x, x::unpack);
        CHECK.outOfBounds("unpack no pack to no net", new Wordnet(), () -> new Wordnet().unpack(3));
    }

    private static int unpackPoked(Wordnet x, int place, int number) {
        int before = x.poke(place, number);
        int answer = x.unpack(1);
        CHECK.same("the net behind a fault", Check.all(x, 1), "d");
        x.poke(place, before);
        return answer;
    }

    private static void unpackOutOfPlace() {
        Wordnet x = Check.with("ab");
        Check.tell(x, 1, "d");
        x.pack(0);
        CHECK.same("mark 2", unpackPoked(x, 0, 2), -100);
        CHECK.same("mark -1", unpackPoked(x, 5, -1), -105);
        CHECK.same("line -2", unpackPoked(x, 1, -2), -101);
        CHECK.same("line to no state", unpackPoked(x, 14, 3), -114);
        CHECK.same("far mark", unpackPoked(x, 10, Integer.MAX_VALUE), -110);
        x.poke(12, 9);
        CHECK.same("the first of two", unpackPoked(x, 7, -9), -107);
        CHECK.same("out of place ahead of a long text", unpackPoked(x, 1, 0), -112);
        x.poke(12, -1);
        CHECK.same("all in place", x.unpack(1), 1);
        CHECK.same("read at last", Check.all(x, 1), "ab");
    }

    private static void unpackTooLong() {
        Wordnet x = Check.with("abcdab");
        Check.tell(x, 1, "d");
        x.pack(0);
        CHECK.same("a state that leads to itself", unpackPoked(x, 1, 0), -6);
        CHECK.same("a loop back", unpackPoked(x, 6 * 5 + 4, 5), -6);
        x.poke(30, 0);
        CHECK.same("seven letters without a mark", unpackPoked(x, 31, 0), -6);
        CHECK.same("six letters without a mark", x.unpack(2), 0);
        x.poke(31, 6);
        x.poke(1, -1);
        CHECK.same("a loop where no text comes", x.unpack(2), 0);
    }

    /** A chain of five states in which every line leads on: 4 to the 4th words. */
    private static void unpackTooMany() {
        Wordnet x = Check.with("aaaa");
        Check.tell(x, 1, "d");
        x.pack(0);
        for (int state = 0; state < 4; state++) {
            for (int letter = 0; letter < 4; letter++) {
                x.poke(5 * state + 1 + letter, state + 1);
            }
        }
        CHECK.same("256 words", x.unpack(1), -5);
        CHECK.same("the net behind 256 words", Check.all(x, 1), "d");
        CHECK.same("a long text ahead of many words", unpackPoked(x, 24, 0), -6);
        x.poke(1, -1);
        x.poke(2, -1);
        CHECK.same("128 words", x.unpack(1), -5);
        x.poke(6, -1);
        CHECK.same("96 words", x.unpack(1), 96);
        CHECK.same("the first of 96 words", x.words(1, 0, 2), "cbaa cbab");
        Wordnet y = WordsInAndOutTest.full();
        y.take(0, 3);
        y.tell(0, 5460);
        y.pack(0);
        CHECK.same("120 words", y.unpack(1), 120);
        y.poke(15, 1);
        CHECK.same("121 words", y.unpack(1), -5);
    }

    private static void ofPack() {
        Wordnet x = Check.with("ab");
        CHECK.same("ofPack 0 of none", x.ofPack(0), 0);
        CHECK.same("ofPack 1 of none", x.ofPack(1), -1);
        CHECK.same("ofPack 2 of none", x.ofPack(2), 0);
        x.pack(0);
        CHECK.same("ofPack 0", x.ofPack(0), 15);
        CHECK.same("ofPack 1", x.ofPack(1), -1);
        CHECK.same("ofPack 2", x.ofPack(2), 10);
        x.poke(14, 3);
        CHECK.same("ofPack 1 at the end", x.ofPack(1), 14);
        x.poke(5, -1);
        CHECK.same("ofPack 1 at a mark", x.ofPack(1), 5);
        CHECK.same("ofPack 2 with a mark", x.ofPack(2), 10);
        x.poke(0, -1);
        CHECK.same("ofPack 1 at the beginning", x.ofPack(1), 0);
        CHECK.same("ofPack 2 with the first mark", x.ofPack(2), 11);
        CHECK.onlyFrom("ofPack", x, 0, 2, x::ofPack);
    }
}
