import java.util.ArrayList;
import java.util.List;

/** Holds answers against those that are due, prints each that is not, and ends the test. */
final class Check {
    /** A call that may throw. */
    interface Call {
        Object answer();
    }

    private static final String OUT_OF_BOUNDS = "throws.IndexOutOfBoundsException";
    private static final String BAD_ARGUMENT = "throws.IllegalArgumentException";
    private static final String BAD_STATE = "throws.IllegalStateException";

    private int checked = 0;
    private int wrong = 0;

    static int code(String word) {
        int code = 0;
        for (char sign : word.toCharArray()) {
            code = 4 * code + (sign - 'a') + 1;
        }
        return code;
    }

    /** Each word's letters; "" is the empty one. */
    static void tell(Wordnet x, int net, String... words) {
        for (String word : words) {
            x.tell(net, code(word));
        }
    }

    static Wordnet with(String... words) {
        Wordnet x = new Wordnet();
        tell(x, 0, words);
        return x;
    }

    /** All words of a net, told as words() does, by RANK and one by one. */
    static String all(Wordnet x, int net) {
        List<String> words = new ArrayList<>();
        int many = x.ofNet(net, 0);
        for (int rank = 0; rank < many; rank++) {
            words.add(x.words(net, rank, 1));
        }
        return String.join(" ", words);
    }

    static String list(Wordnet x) {
        List<String> words = new ArrayList<>();
        int many = x.ofList(0);
        for (int nth = 0; nth < many; nth++) {
            words.add(word(x.listed(nth)));
        }
        return String.join(" ", words);
    }

    static String pack(Wordnet x) {
        List<String> numbers = new ArrayList<>();
        int many = x.ofPack(0);
        for (int place = 0; place < many; place++) {
            numbers.add(String.valueOf(x.packed(place)));
        }
        return String.join(" ", numbers);
    }

    static String word(int code) {
        StringBuilder out = new StringBuilder();
        for (int rest = code; rest > 0; rest = (rest - 1) / 4) {
            out.append("abcd".charAt((rest - 1) % 4));
        }
        return code == 0 ? "-" : out.reverse().toString();
    }

    /** All that an object holds, in few calls: so that no change goes unseen, and its 512 calls are not used up. */
    static String whole(Wordnet x) {
        StringBuilder out = new StringBuilder();
        for (int net = 0; net < 3; net++) {
            out.append(x.ofNet(net, 3)).append(':');
            int many = x.ofNet(net, 0);
            for (int from = 0; from < many; from += 20) {
                out.append(x.words(net, from, 20)).append(' ');
            }
        }
        out.append('/').append(list(x)).append('/').append(pack(x)).append('/').append(x.text());
        out.append('/').append(x.cursor(0)).append(' ').append(x.cursor(1));
        return out.append('/').append(x.digest()).toString();
    }

    static Object outcome(Call call) {
        try {
            return call.answer();
        } catch (RuntimeException e) {
            return "throws." + e.getClass().getSimpleName();
        }
    }

    void same(String what, Object got, Object due) {
        checked++;
        if (!due.equals(got)) {
            wrong++;
            System.out.println(what + " answered " + got + ", due is " + due);
        }
    }

    /** A call that throws changes nothing: the checksum tells. */
    private void refused(String what, Wordnet x, Call call, String due) {
        long before = x.digest();
        same(what, outcome(call), due);
        same("digest() behind " + what, x.digest(), before);
    }

    /** A call that comes to nothing, or only asks, changes nothing. */
    void unchanged(String what, Wordnet x, Object due, Call call) {
        String before = whole(x);
        same(what, outcome(call), due);
        same("the whole behind " + what, whole(x), before);
    }

    void outOfBounds(String what, Wordnet x, Call call) {
        refused(what, x, call, OUT_OF_BOUNDS);
    }

    void badArgument(String what, Wordnet x, Call call) {
        refused(what, x, call, BAD_ARGUMENT);
    }

    void badState(String what, Wordnet x, Call call) {
        refused(what, x, call, BAD_STATE);
    }

    /** What is made of one number, a net, a code or another one. */
    interface ByNumber {
        Object answer(int number);
    }

    void noSuchNet(String what, Wordnet x, ByNumber call) {
        for (int net : new int[] {-1, 3, Integer.MIN_VALUE, Integer.MAX_VALUE}) {
            outOfBounds(what + " of net " + net, x, () -> call.answer(net));
        }
    }

    void onlyFrom(String what, Wordnet x, int lowest, int highest, ByNumber call) {
        for (int number : new int[] {lowest - 1, highest + 1, Integer.MIN_VALUE, Integer.MAX_VALUE}) {
            badArgument(what + " with " + number, x, () -> call.answer(number));
        }
        for (int number : new int[] {lowest, highest}) {
            Object got = outcome(() -> call.answer(number));
            same(what + " with " + number + " is refused", BAD_ARGUMENT.equals(got), false);
        }
    }

    void onlyCodes(String what, Wordnet x, ByNumber call) {
        onlyFrom(what, x, 0, 5460, call);
    }

    void end() {
        System.out.println(checked + " answers, " + wrong + " of them not as due");
        System.exit(wrong == 0 && checked > 0 ? 0 : 1);
    }
}
