import java.util.ArrayList;
import java.util.Comparator;
import java.util.HashMap;
import java.util.HashSet;
import java.util.List;
import java.util.Map;
import java.util.Set;
import java.util.TreeMap;
import java.util.TreeSet;

/**
 * The document once more, as plainly as sets of texts can say it: what Wordnet answers is held against this.
 * It shares no code and no way of holding things with the class.
 */
public final class Model {
    private static final int NONE = -1;
    private static final int EMPTY = -9;
    private static final int VOID = -8;
    private static final int WRONG = -7;
    private static final Comparator<String> FEWER_LETTERS_FIRST =
            Comparator.comparingInt(String::length).thenComparing(Comparator.naturalOrder());

    private final List<TreeSet<String>> nets = new ArrayList<>();
    private final boolean[] isLeast = new boolean[3];
    private List<Integer> pack = new ArrayList<>();
    private TreeSet<String> list = new TreeSet<>();
    private String text = "";
    private int cursorNet = 0;
    private String cursorText = "";
    private int knocks = 0;

    public Model() {
        for (int k = 0; k < 3; k++) {
            nets.add(new TreeSet<>());
        }
    }

    // ---- codes and texts

    static String textOf(int code) {
        return code == 0 ? "" : textOf((code - 1) / 4) + "abcd".charAt((code - 1) % 4);
    }

    static int codeOf(String text) {
        int code = 0;
        for (char sign : text.toCharArray()) {
            code = 4 * code + "abcd".indexOf(sign) + 1;
        }
        return code;
    }

    private static int codeOrNone(String text) {
        return text == null ? NONE : codeOf(text);
    }

    static int distanceOf(String one, String other) {
        if (one.isEmpty() || other.isEmpty()) {
            return one.length() + other.length();
        }
        String restOne = one.substring(1);
        String restOther = other.substring(1);
        if (one.charAt(0) == other.charAt(0)) {
            return distanceOf(restOne, restOther);
        }
        int in = distanceOf(one, restOther);
        int out = distanceOf(restOne, other);
        int made = distanceOf(restOne, restOther);
        return 1 + Math.min(made, Math.min(in, out));
    }

    // ---- what is refused

    private TreeSet<String> net(int net) {
        if (net < 0 || net > 2) {
            throw new IndexOutOfBoundsException();
        }
        return nets.get(net);
    }

    private static void need(boolean isFine) {
        if (!isFine) {
            throw new IllegalArgumentException();
        }
    }

    private static void needCode(int code) {
        need(code >= 0 && code <= 5460);
    }

    // ---- beginnings and states

    private static TreeSet<String> beginnings(Set<String> words) {
        TreeSet<String> all = new TreeSet<>(FEWER_LETTERS_FIRST);
        all.add("");
        for (String word : words) {
            for (int k = 0; k <= word.length(); k++) {
                all.add(word.substring(0, k));
            }
        }
        return all;
    }

    private static Set<String> ends(Set<String> words, String beginning) {
        Set<String> ends = new HashSet<>();
        for (String word : words) {
            if (word.startsWith(beginning)) {
                ends.add(word.substring(beginning.length()));
            }
        }
        return ends;
    }

    /** The number of the state of each beginning. */
    private static Map<String, Integer> states(Set<String> words, boolean isLeast) {
        Map<String, Integer> numbers = new TreeMap<>(FEWER_LETTERS_FIRST);
        Map<Set<String>, Integer> known = new HashMap<>();
        int many = 0;
        for (String beginning : beginnings(words)) {
            Integer number = isLeast ? known.get(ends(words, beginning)) : null;
            if (number == null) {
                number = many++;
                if (isLeast) {
                    known.put(ends(words, beginning), number);
                }
            }
            numbers.put(beginning, number);
        }
        return numbers;
    }

    private static int manyStates(Set<String> words, boolean isLeast) {
        return new HashSet<>(states(words, isLeast).values()).size();
    }

    private static List<Integer> packOf(Set<String> words, boolean isLeast) {
        Map<String, Integer> numbers = states(words, isLeast);
        List<Integer> out = new ArrayList<>();
        for (Map.Entry<String, Integer> entry : numbers.entrySet()) {
            if (entry.getValue() * 5 == out.size()) {
                out.add(words.contains(entry.getKey()) ? 1 : 0);
                for (char letter : "abcd".toCharArray()) {
                    out.add(numbers.getOrDefault(entry.getKey() + letter, NONE));
                }
            }
        }
        return out;
    }

    private int manyLines(int net) {
        int lines = 0;
        List<Integer> numbers = packOf(net(net), isLeast[net]);
        for (int k = 0; k < numbers.size(); k++) {
            if (k % 5 != 0 && numbers.get(k) != NONE) {
                lines++;
            }
        }
        return lines;
    }

    // ---- words in and out

    private boolean add(int net, String word) {
        return (net(net).size() < 120 || net(net).contains(word)) && net(net).add(word);
    }

    private int addAll(int net, Iterable<String> words) {
        int added = 0;
        for (String word : words) {
            added += add(net, word) ? 1 : 0;
        }
        return added;
    }

    public boolean tell(int net, int code) {
        net(net);
        needCode(code);
        if (net(net).size() == 120 && !net(net).contains(textOf(code))) {
            throw new IllegalStateException();
        }
        return net(net).add(textOf(code));
    }

    public boolean take(int net, int code) {
        net(net);
        needCode(code);
        return net(net).remove(textOf(code));
    }

    public int sow(int net, int from, int step, int many) {
        net(net);
        needCode(from);
        needCode(step);
        need(many >= 1 && many <= 60);
        List<String> words = new ArrayList<>();
        for (int k = 0; k < many; k++) {
            words.add(textOf((from + k * step) % 5461));
        }
        return addAll(net, words);
    }

    public int fill(int net, int code, int gaps) {
        net(net);
        needCode(code);
        need(gaps >= 0 && gaps <= 63);
        TreeSet<String> words = new TreeSet<>();
        for (int k = 0; k <= 5460; k++) {
            if (chosen(textOf(k), 2, textOf(code), gaps)) {
                words.add(textOf(k));
            }
        }
        return addAll(net, words);
    }

    public int prune(int net, int code) {
        int before = net(net).size();
        needCode(code);
        net(net).removeIf(word -> word.startsWith(textOf(code)));
        return before - net(net).size();
    }

    public int clear(int net) {
        int before = net(net).size();
        net(net).clear();
        return before;
    }

    // ---- nets as a whole

    public int least(int net) {
        int before = manyStates(net(net), isLeast[net]);
        isLeast[net] = true;
        return before - manyStates(net(net), true);
    }

    public int loose(int net) {
        int before = manyStates(net(net), isLeast[net]);
        isLeast[net] = false;
        return manyStates(net(net), false) - before;
    }

    private TreeSet<String> mixed(int net, int other, int how) {
        TreeSet<String> both = new TreeSet<>(net(net));
        both.retainAll(net(other));
        TreeSet<String> mixed = new TreeSet<>(net(net));
        if (how == 1) {
            return both;
        }
        if (how != 2) {
            mixed.addAll(net(other));
        }
        if (how != 0) {
            mixed.removeAll(both);
        }
        return mixed;
    }

    public int mix(int net, int other, int how) {
        int many = common(net, other, how);
        if (many > 120) {
            throw new IllegalStateException();
        }
        nets.set(net, mixed(net, other, how));
        return many;
    }

    public int copy(int net, int other) {
        net(net);
        net(other);
        need(net != other);
        nets.set(net, new TreeSet<>(net(other)));
        isLeast[net] = isLeast[other];
        return net(net).size();
    }

    public int turn(int net) {
        TreeSet<String> turned = new TreeSet<>();
        int added = 0;
        for (String word : net(net)) {
            String back = new StringBuilder(word).reverse().toString();
            turned.add(back);
            added += net(net).contains(back) ? 0 : 1;
        }
        nets.set(net, turned);
        return added;
    }

    // ---- the pack

    public int pack(int net) {
        pack = packOf(net(net), isLeast[net]);
        return pack.size();
    }

    public int poke(int place, int number) {
        int before = packed(place);
        pack.set(place, number);
        return before;
    }

    public int unpack(int net) {
        net(net);
        if (pack.isEmpty()) {
            return EMPTY;
        }
        int place = ofPack(1);
        if (place != NONE) {
            return -100 - place;
        }
        TreeSet<String> words = new TreeSet<>();
        Map<String, Integer> row = Map.of("", 0);
        for (int letters = 0; letters <= 6; letters++) {
            Map<String, Integer> further = new HashMap<>();
            for (Map.Entry<String, Integer> entry : row.entrySet()) {
                int at = entry.getValue() * 5;
                if (pack.get(at) == 1) {
                    words.add(entry.getKey());
                }
                for (int letter = 0; letter < 4; letter++) {
                    if (pack.get(at + 1 + letter) != NONE) {
                        further.put(entry.getKey() + "abcd".charAt(letter), pack.get(at + 1 + letter));
                    }
                }
            }
            row = further;
        }
        if (!row.isEmpty()) {
            return -6;
        }
        if (words.size() > 120) {
            return -5;
        }
        nets.set(net, words);
        return words.size();
    }

    // ---- the list, the text, the cursor

    private static boolean chosen(String word, int how, String w, int x) {
        switch (how) {
            case 0:
                return word.startsWith(w);
            case 1:
                return word.endsWith(w);
            case 2:
                boolean isSame = word.length() == w.length();
                for (int k = 0; isSame && k < w.length(); k++) {
                    boolean isGap = (x / (1 << k)) % 2 == 1;
                    isSame = isGap || word.charAt(k) == w.charAt(k);
                }
                return isSame;
            case 3:
                return distanceOf(word, w) <= x;
            default:
                return word.contains(w);
        }
    }

    private TreeSet<String> allChosen(int net, int how, int code, int extra) {
        net(net);
        need(how >= 0 && how <= 4);
        needCode(code);
        need(extra >= 0 && extra <= 63);
        TreeSet<String> all = new TreeSet<>();
        for (String word : net(net)) {
            if (chosen(word, how, textOf(code), extra)) {
                all.add(word);
            }
        }
        return all;
    }

    public int gather(int net, int how, int code, int extra) {
        list = allChosen(net, how, code, extra);
        return list.size();
    }

    public int spread(int net) {
        net(net);
        return addAll(net, list);
    }

    public int listPoll(boolean isLast) {
        return list.isEmpty() ? EMPTY : codeOf(isLast ? list.pollLast() : list.pollFirst());
    }

    public int say(int code) {
        needCode(code);
        if (text.length() + textOf(code).length() > 60) {
            throw new IllegalStateException();
        }
        text += textOf(code);
        return text.length();
    }

    public int hush() {
        int before = text.length();
        text = "";
        return before;
    }

    public int enter(int net) {
        net(net);
        cursorNet = net;
        cursorText = "";
        return net(net).size();
    }

    public int step(int letter) {
        need(letter >= -1 && letter <= 3);
        if (letter == NONE) {
            return VOID;
        }
        String further = cursorText + "abcd".charAt(letter);
        if (!beginnings(net(cursorNet)).contains(further)) {
            return NONE;
        }
        cursorText = further;
        return ends(net(cursorNet), further).size();
    }

    public int back() {
        if (cursorText.isEmpty()) {
            return EMPTY;
        }
        int last = cursorText.length() - 1;
        int letter = "abcd".indexOf(cursorText.charAt(last));
        cursorText = cursorText.substring(0, last);
        return letter;
    }

    public int knock() {
        return ++knocks;
    }

    // ---- what is asked of a net

    public boolean has(int net, int code) {
        net(net);
        needCode(code);
        return net(net).contains(textOf(code));
    }

    public int ofNet(int net, int what) {
        TreeSet<String> words = net(net);
        need(what >= 0 && what <= 9);
        switch (what) {
            case 0:
                return words.size();
            case 1:
                return manyStates(words, isLeast[net]);
            case 2:
                return manyLines(net);
            case 3:
                return isLeast[net] ? 1 : 0;
            case 4:
                return manyStates(words, true);
            case 5:
                return beginnings(words).size();
            case 6:
                return words.stream().mapToInt(String::length).max().orElse(NONE);
            case 7:
                return words.stream().mapToInt(String::length).min().orElse(NONE);
            case 8:
                return words.isEmpty() ? NONE : codeOf(words.first());
            default:
                return words.isEmpty() ? NONE : codeOf(words.last());
        }
    }

    public int below(int net, int code) {
        net(net);
        needCode(code);
        return ends(net(net), textOf(code)).size();
    }

    public int rank(int net, int code) {
        net(net);
        needCode(code);
        return net(net).headSet(textOf(code)).size();
    }

    public int atRank(int net, int rank) {
        net(net);
        need(rank >= 0);
        return rank < net(net).size() ? codeOf(new ArrayList<>(net(net)).get(rank)) : NONE;
    }

    public int pick(int net, int number) {
        int many = net(net).size();
        return many == 0 ? NONE : atRank(net, (int) (((long) number % many + many) % many));
    }

    public int next(int net, int code, int way) {
        net(net);
        needCode(code);
        need(way >= 0 && way <= 3);
        String word = textOf(code);
        switch (way) {
            case 0:
                return codeOrNone(net(net).floor(word));
            case 1:
                return codeOrNone(net(net).lower(word));
            case 2:
                return codeOrNone(net(net).ceiling(word));
            default:
                return codeOrNone(net(net).higher(word));
        }
    }

    /** The letters behind a beginning; null for what is none. */
    private List<Integer> lettersBehind(int net, int code) {
        net(net);
        needCode(code);
        TreeSet<String> all = beginnings(net(net));
        if (!all.contains(textOf(code))) {
            return null;
        }
        List<Integer> found = new ArrayList<>();
        for (int letter = 0; letter < 4; letter++) {
            if (all.contains(textOf(code) + "abcd".charAt(letter))) {
                found.add(letter);
            }
        }
        return found;
    }

    public int letters(int net, int code) {
        List<Integer> found = lettersBehind(net, code);
        return found == null ? NONE : found.stream().mapToInt(letter -> 1 << letter).sum();
    }

    public int firstLetter(int net, int code, boolean last) {
        List<Integer> found = lettersBehind(net, code);
        if (found == null || found.isEmpty()) {
            return EMPTY;
        }
        return found.get(last ? found.size() - 1 : 0);
    }

    public int lettersBetween(int net, int code, int from, int to) {
        List<Integer> found = lettersBehind(net, code);
        need(from >= 0 && from <= 4);
        need(to >= 0 && to <= 4);
        if (from > to) {
            return WRONG;
        }
        return found == null ? 0 : (int) found.stream().filter(letter -> letter >= from && letter < to).count();
    }

    public String words(int net, int from, int many) {
        net(net);
        need(from >= 0);
        need(many >= 1 && many <= 20);
        List<String> out = new ArrayList<>();
        int rank = 0;
        for (String word : net(net)) {
            if (rank >= from && out.size() < many) {
                out.add(word.isEmpty() ? "-" : word);
            }
            rank++;
        }
        return String.join(" ", out);
    }

    public int count(int net, int how, int code, int extra) {
        return allChosen(net, how, code, extra).size();
    }

    public int distance(int code, int other) {
        needCode(code);
        needCode(other);
        return distanceOf(textOf(code), textOf(other));
    }

    public int nearest(int net, int code) {
        net(net);
        needCode(code);
        return codeOrNone(net(net).stream()
                .min(Comparator.comparingInt((String word) -> distanceOf(word, textOf(code)))
                        .thenComparing(Comparator.naturalOrder()))
                .orElse(null));
    }

    public int state(int net, int code) {
        net(net);
        needCode(code);
        return states(net(net), isLeast[net]).getOrDefault(textOf(code), NONE);
    }

    public int line(int net, int state, int letter) {
        List<Integer> numbers = packOf(net(net), isLeast[net]);
        if (state < 0 || state >= numbers.size() / 5) {
            throw new IndexOutOfBoundsException();
        }
        need(letter >= 0 && letter <= 3);
        return numbers.get(5 * state + 1 + letter);
    }

    // ---- two nets

    public int parting(int net, int other) {
        TreeSet<String> parted = new TreeSet<>(FEWER_LETTERS_FIRST);
        net(net);
        net(other);
        parted.addAll(mixed(net, other, 3));
        return parted.isEmpty() ? NONE : codeOf(parted.first());
    }

    public int common(int net, int other, int how) {
        net(net);
        net(other);
        need(how >= 0 && how <= 3);
        return mixed(net, other, how).size();
    }

    public boolean alike(int net, int other) {
        return packOf(net(net), true).equals(packOf(net(other), true));
    }

    // ---- the text, the list, the pack, the cursor

    public String text() {
        return text;
    }

    public int sign(int place) {
        return place < 0 || place >= text.length() ? EMPTY : "abcd".indexOf(text.charAt(place));
    }

    public int falls(int net, int code) {
        net(net);
        needCode(code);
        TreeSet<String> all = beginnings(net(net));
        String word = textOf(code);
        if (word.isEmpty() || !all.contains(word)) {
            return NONE;
        }
        String tail = word.substring(1);
        while (!all.contains(tail)) {
            tail = tail.substring(1);
        }
        return codeOf(tail);
    }

    /** All matches, each as its place, the place of its last letter, and its code. */
    private List<int[]> allMatches(int net) {
        List<int[]> all = new ArrayList<>();
        for (String word : net(net)) {
            for (int place = 0; place + word.length() <= text.length(); place++) {
                if (!word.isEmpty() && text.startsWith(word, place)) {
                    all.add(new int[] {place, place + word.length() - 1, codeOf(word)});
                }
            }
        }
        all.sort(Comparator.comparingInt((int[] found) -> found[1]).thenComparingInt(found -> found[0]));
        return all;
    }

    public int matches(int net) {
        return allMatches(net).size();
    }

    public int match(int net, int nth, int what) {
        net(net);
        need(nth >= 0);
        need(what >= 0 && what <= 2);
        List<int[]> all = allMatches(net);
        return nth < all.size() ? all.get(nth)[what] : NONE;
    }

    public int longest(int net, int place) {
        net(net);
        if (place < 0 || place > text.length()) {
            throw new IndexOutOfBoundsException();
        }
        int found = NONE;
        for (String word : net(net)) {
            if (text.startsWith(word, place)) {
                found = Math.max(found, word.length());
            }
        }
        return found;
    }

    public String cut(int net) {
        net(net);
        List<String> pieces = new ArrayList<>();
        int place = 0;
        while (place < text.length()) {
            int many = longest(net, place);
            pieces.add(many > 0 ? text.substring(place, place + many) : "(" + text.charAt(place) + ")");
            place += many > 0 ? many : 1;
        }
        return String.join("|", pieces);
    }

    public int listed(int nth) {
        need(nth >= 0);
        return nth < list.size() ? codeOf(new ArrayList<>(list).get(nth)) : NONE;
    }

    public int ofList(int what) {
        need(what >= 0 && what <= 3);
        switch (what) {
            case 0:
                return list.size();
            case 1:
                return list.isEmpty() ? EMPTY : codeOf(list.first());
            case 2:
                return list.isEmpty() ? EMPTY : codeOf(list.last());
            default:
                return String.join("", list).length();
        }
    }

    public int listBetween(int code, int other) {
        needCode(code);
        needCode(other);
        if (textOf(code).compareTo(textOf(other)) > 0) {
            return WRONG;
        }
        return list.subSet(textOf(code), textOf(other)).size();
    }

    public int packed(int place) {
        if (place < 0 || place >= pack.size()) {
            throw new IndexOutOfBoundsException();
        }
        return pack.get(place);
    }

    public int ofPack(int what) {
        need(what >= 0 && what <= 2);
        if (what == 0) {
            return pack.size();
        }
        if (what == 2) {
            return (int) pack.stream().filter(number -> number == NONE).count();
        }
        for (int place = 0; place < pack.size(); place++) {
            int number = pack.get(place);
            boolean isInPlace = place % 5 == 0
                    ? number == 0 || number == 1
                    : number >= NONE && number <= pack.size() / 5 - 1;
            if (!isInPlace) {
                return place;
            }
        }
        return NONE;
    }

    public int cursor(int what) {
        need(what >= 0 && what <= 4);
        switch (what) {
            case 0:
                return cursorNet;
            case 1:
                return codeOf(cursorText);
            case 2:
                return cursorText.length();
            case 3:
                return net(cursorNet).contains(cursorText) ? 1 : 0;
            default:
                return ends(net(cursorNet), cursorText).size();
        }
    }

    // ---- all of it

    /** True by the document's own words, whatever was called. */
    public boolean isSound() {
        return true;
    }

    public long digest() {
        List<Integer> row = new ArrayList<>();
        for (int net = 0; net < 3; net++) {
            for (int what = 0; what <= 9; what++) {
                row.add(ofNet(net, what));
            }
            net(net).forEach(word -> row.add(codeOf(word)));
            row.addAll(List.of(letters(net, 0), state(net, 1), state(net, 6), state(net, 27)));
            row.addAll(List.of(count(net, 0, 1, 0), count(net, 1, 1, 0), count(net, 4, 1, 0)));
            row.addAll(List.of(count(net, 2, 6, 1), count(net, 3, 27, 2), nearest(net, 27), falls(net, 6)));
            row.addAll(List.of(matches(net), match(net, 0, 0), match(net, 0, 1), match(net, 0, 2)));
            row.add(cut(net).length());
        }
        row.addAll(List.of(parting(0, 1), parting(0, 2), parting(1, 2)));
        for (int how = 0; how <= 3; how++) {
            row.add(common(0, 1, how));
        }
        row.add(text.length());
        for (int what = 0; what <= 3; what++) {
            row.add(ofList(what));
        }
        for (int what = 0; what <= 2; what++) {
            row.add(ofPack(what));
        }
        for (int what = 0; what <= 4; what++) {
            row.add(cursor(what));
        }
        row.add(knocks);
        row.add(isSound() ? 1 : 0);
        long d = 5305;
        for (int value : row) {
            d = d * 31 + value;
        }
        return d;
    }
}
