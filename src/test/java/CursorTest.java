/** Promises 21 to 24 and 56: the cursor, and who knocked. */
public final class CursorTest {
    private static final Check CHECK = new Check();

    public static void main(String[] args) {
        enter();
        step();
        stepWhereNoneIsLeft();
        back();
        knock();
        cursor();
        CHECK.end();
    }

    private static String where(Wordnet x) {
        return x.cursor(0) + " " + Check.word(x.cursor(1)) + " " + x.cursor(2) + " " + x.cursor(3) + " " + x.cursor(4);
    }

    private static void enter() {
        Wordnet x = Check.with("a", "ab");
        Check.tell(x, 2, "b", "", "ba");
        x.step(0);
        CHECK.same("enter", x.enter(2), 3);
        CHECK.same("entered", where(x), "2 - 0 1 3");
        CHECK.same("enter without words", x.enter(1), 0);
        CHECK.same("entered without words", where(x), "1 - 0 0 0");
        x.enter(0);
        x.step(0);
        CHECK.noSuchNet("enter", x, x::enter);
        CHECK.same("enter the same", x.enter(0), 2);
        CHECK.same("entered the same", where(x), "0 - 0 0 2");
    }

    private static void step() {
        Wordnet x = Check.with("a", "abc", "abd", "abcdab", "b");
        CHECK.same("step", x.step(0), 4);
        CHECK.same("stepped", where(x), "0 a 1 1 4");
        CHECK.same("step to none", x.step(0), -1);
        CHECK.same("stay", where(x), "0 a 1 1 4");
        CHECK.same("step nowhere", x.step(-1), -8);
        CHECK.same("stay, too", where(x), "0 a 1 1 4");
        CHECK.same("step on", x.step(1), 3);
        CHECK.same("no word there", where(x), "0 ab 2 0 3");
        CHECK.same("step on to two", x.step(2), 2);
        x.step(3);
        x.step(0);
        CHECK.same("step to the sixth letter", x.step(1), 1);
        for (int letter = 0; letter < 4; letter++) {
            CHECK.same("step to a seventh letter", x.step(letter), -1);
        }
        CHECK.same("at six letters", where(x), "0 abcdab 6 1 1");
        CHECK.onlyFrom("step", x, -1, 3, x::step);
    }

    private static void stepWhereNoneIsLeft() {
        Wordnet x = Check.with("ab", "abc");
        x.step(0);
        x.step(1);
        x.prune(0, 1);
        CHECK.same("where no word is left", where(x), "0 ab 2 0 0");
        CHECK.same("step where none is left", x.step(2), -1);
        Check.tell(x, 0, "abc");
        CHECK.same("step where one is again", x.step(2), 1);
        x.clear(0);
        CHECK.same("back where none is left", x.back(), 2);
        CHECK.same("behind back", where(x), "0 ab 2 0 0");
    }

    private static void back() {
        Wordnet x = Check.with("dcba", "a");
        CHECK.same("back from the empty text", x.back(), -9);
        for (int letter = 3; letter >= 0; letter--) {
            x.step(letter);
        }
        for (int letter = 0; letter <= 3; letter++) {
            CHECK.same("back", x.back(), letter);
            CHECK.same("letters behind back", x.cursor(2), 3 - letter);
        }
        CHECK.same("back at the beginning", x.back(), -9);
        CHECK.same("at the beginning", where(x), "0 - 0 0 2");
    }

    private static void knock() {
        Wordnet x = new Wordnet();
        for (int k = 1; k <= 5; k++) {
            CHECK.same("knock", x.knock(), k);
        }
        x.clear(0);
        x.enter(1);
        x.hush();
        CHECK.same("knock ever", x.knock(), 6);
    }

    private static void cursor() {
        Wordnet x = Check.with("ab");
        Check.tell(x, 1, "a", "ab", "abc");
        x.step(0);
        x.copy(0, 1);
        CHECK.same("cursor in a copied net", where(x), "0 a 1 1 3");
        x.clear(1);
        CHECK.same("cursor and another net", where(x), "0 a 1 1 3");
        x.take(0, 1);
        CHECK.same("cursor and a taken word", where(x), "0 a 1 0 2");
        CHECK.onlyFrom("cursor", x, 0, 4, x::cursor);
    }
}
