import java.lang.reflect.InvocationTargetException;
import java.lang.reflect.Method;
import java.util.ArrayList;
import java.util.Arrays;
import java.util.List;

/**
 * Every "Throws" of every promise: each argument at its lowest and its highest number, one beside them and far
 * off, together with all such numbers of the other arguments, so that the exception named first is known to go
 * ahead. Each call is made on an object of its own, and one that throws has to change nothing.
 */
public final class RefusedTest {
    /** What each argument may be; the object of makeObject() has as many states, numbers and signs as told here. */
    private static final String[] CALLS = {
        "tell net code", "take net code", "sow net code code 1..60", "fill net code 0..63", "prune net code", "clear net",
        "least net", "loose net", "mix net net 0..3", "copy net net", "turn net", "pack net", "poke number any",
        "unpack net", "gather net 0..4 code 0..63", "spread net", "say code", "enter net", "step -1..3"
    };
    private static final String[] ASKS = {
        "has net code", "ofNet net 0..9", "below net code", "rank net code", "atRank net notBelow0", "pick net any",
        "next net code 0..3", "letters net code", "firstLetter net code flag", "lettersBetween net code 0..4 0..4",
        "words net notBelow0 1..20", "count net 0..4 code 0..63", "distance code code", "nearest net code",
        "state net code", "line net state 0..3", "parting net net", "common net net 0..3", "alike net net", "text",
        "sign any", "falls net code", "matches net", "match net notBelow0 0..2", "longest net placeOrEnd", "cut net",
        "listed notBelow0", "ofList 0..3", "listBetween code code", "packed number", "ofPack 0..2", "cursor 0..4",
        "isSound", "digest"
    };
    private static final Check CHECK = new Check();

    public static void main(String[] args) {
        for (String call : CALLS) {
            tryAll(call, false);
        }
        for (String ask : ASKS) {
            tryAll(ask, true);
        }
        CHECK.same("calls without arguments that may be refused, beside those", CALLS.length + ASKS.length + 4, 57);
        tellBehindTheBound();
        sayBehindTheBound();
        mixBehindTheBound();
        noPack();
        CHECK.end();
    }

    /** Each net has three states; the pack has 15 numbers, one of them out of place, the text four signs. */
    private static Wordnet makeObject() {
        Wordnet x = Check.with("ab", "bb", "c");
        Check.tell(x, 1, "ab");
        Check.tell(x, 2, "a", "d");
        x.least(0);
        x.gather(0, 1, 2, 0);
        x.pack(1);
        x.poke(14, 7);
        x.say(Check.code("abcd"));
        x.enter(1);
        x.step(0);
        x.knock();
        return x;
    }

    /** An argument's bounds, and whether it is refused by IndexOutOfBoundsException. */
    private static final class Bounds {
        final boolean isIndex;
        final long lowest;
        final long highest;

        Bounds(String kind) {
            isIndex = Arrays.asList("net", "state", "number", "placeOrEnd").contains(kind);
            lowest = kind.equals("any") ? Integer.MIN_VALUE : kind.contains("..") ? part(kind, 0) : 0;
            highest = kind.contains("..") ? part(kind, 1) : highestOf(kind);
        }

        private static long part(String kind, int which) {
            return Long.parseLong(kind.split("\\.\\.")[which]);
        }

        private static long highestOf(String kind) {
            switch (kind) {
                case "net": case "state":
                    return 2;
                case "code":
                    return 5460;
                case "number":
                    return 14;
                case "placeOrEnd":
                    return 4;
                case "flag":
                    return 1;
                default:
                    return Integer.MAX_VALUE;
            }
        }

        boolean isWithin(long number) {
            return number >= lowest && number <= highest;
        }

        List<Integer> tried() {
            List<Integer> all = new ArrayList<>();
            for (long number : new long[] {lowest, highest, lowest - 1, highest + 1, Integer.MIN_VALUE, Integer.MAX_VALUE}) {
                if (number == (int) number && !all.contains((int) number)) {
                    all.add((int) number);
                }
            }
            return all;
        }
    }

    private static Method methodOf(String name) {
        for (Method method : Wordnet.class.getMethods()) {
            if (method.getName().equals(name)) {
                return method;
            }
        }
        throw new IllegalStateException("no method " + name);
    }

    private static void tryAll(String call, boolean isAsk) {
        String[] words = call.split(" ");
        Method method = methodOf(words[0]);
        List<Bounds> bounds = new ArrayList<>();
        for (int k = 1; k < words.length; k++) {
            bounds.add(new Bounds(words[k]));
        }
        CHECK.same("arguments of " + words[0], method.getParameterCount(), bounds.size());
        tryFrom(method, bounds, new ArrayList<>(), isAsk);
    }

    private static void tryFrom(Method method, List<Bounds> bounds, List<Integer> chosen, boolean isAsk) {
        if (chosen.size() == bounds.size()) {
            tryOne(method, bounds, chosen, isAsk);
            return;
        }
        boolean isFlag = method.getParameterTypes()[chosen.size()] == boolean.class;
        for (int number : isFlag ? List.of(0, 1) : bounds.get(chosen.size()).tried()) {
            List<Integer> further = new ArrayList<>(chosen);
            further.add(number);
            tryFrom(method, bounds, further, isAsk);
        }
    }

    private static String due(Method method, List<Bounds> bounds, List<Integer> chosen) {
        String due = "none";
        for (int k = 0; k < chosen.size(); k++) {
            if (!bounds.get(k).isWithin(chosen.get(k))) {
                if (bounds.get(k).isIndex) {
                    return "IndexOutOfBoundsException";
                }
                due = "IllegalArgumentException";
            }
        }
        boolean isCopyToItself = method.getName().equals("copy") && chosen.get(0).equals(chosen.get(1));
        return isCopyToItself ? "IllegalArgumentException" : due;
    }

    private static void tryOne(Method method, List<Bounds> bounds, List<Integer> chosen, boolean isAsk) {
        String what = method.getName() + chosen;
        String due = due(method, bounds, chosen);
        Wordnet x = makeObject();
        String before = Check.whole(x);
        CHECK.same("exception of " + what, thrown(method, x, chosen), due);
        if (isAsk || !due.equals("none")) {
            CHECK.same("the whole behind " + what, Check.whole(x), before);
        }
    }

    private static String thrown(Method method, Wordnet x, List<Integer> chosen) {
        Object[] arguments = new Object[chosen.size()];
        for (int k = 0; k < arguments.length; k++) {
            boolean isFlag = method.getParameterTypes()[k] == boolean.class;
            arguments[k] = isFlag ? (Object) (chosen.get(k) == 1) : (Object) chosen.get(k);
        }
        try {
            method.invoke(x, arguments);
            return "none";
        } catch (InvocationTargetException e) {
            return e.getCause().getClass().getSimpleName();
        } catch (IllegalAccessException e) {
            throw new IllegalStateException(e);
        }
    }

    // ---- what depends on how full something is

    private static void tellBehindTheBound() {
        for (int net = 0; net < 3; net++) {
            int at = net;
            Wordnet x = new Wordnet();
            x.sow(at, 0, 1, 60);
            x.sow(at, 60, 1, 59);
            CHECK.same("tell the 120th word to net " + at, Check.outcome(() -> x.tell(at, 119)), true);
            CHECK.badState("tell the 121st word to net " + at, x, () -> x.tell(at, 120));
            CHECK.badState("tell the last word of all to full net " + at, x, () -> x.tell(at, 5460));
            CHECK.same("tell a word of its own to full net " + at, Check.outcome(() -> x.tell(at, 0)), false);
            CHECK.badArgument("tell no code to full net " + at, x, () -> x.tell(at, 5461));
            CHECK.outOfBounds("tell no net, when one is full", x, () -> x.tell(3, 120));
        }
    }

    private static void sayBehindTheBound() {
        for (int many = 1; many <= 6; many++) {
            Wordnet x = new Wordnet();
            String word = "dcbada".substring(0, many);
            for (int k = 0; k < 9; k++) {
                x.say(5460);
            }
            x.say(Check.code("abcdab".substring(0, 6 - many)));
            CHECK.same("say up to 60, " + many, Check.outcome(() -> x.say(Check.code(word))), 60);
            CHECK.badState("say more than 60, " + many, x, () -> x.say(Check.code(word)));
            CHECK.same("the text behind it, " + many, x.text().length(), 60);
            CHECK.badArgument("say no code to a full text, " + many, x, () -> x.say(-1));
        }
    }

    private static void mixBehindTheBound() {
        for (int how : new int[] {0, 3}) {
            Wordnet x = new Wordnet();
            x.sow(0, 0, 1, 60);
            x.sow(0, 60, 1, 1);
            x.sow(1, 1000, 1, 60);
            CHECK.badState("mix to 121 words by " + how, x, () -> x.mix(0, 1, how));
            CHECK.badState("mix to 121 words the other way by " + how, x, () -> x.mix(1, 0, how));
            CHECK.badArgument("mix to too many words by no how", x, () -> x.mix(0, 1, how + 4));
            CHECK.outOfBounds("mix of no other by " + how, x, () -> x.mix(0, 3, how));
            x.take(1, 1000);
            CHECK.same("mix to 120 words by " + how, Check.outcome(() -> x.mix(0, 1, how)), 120);
        }
    }

    private static void noPack() {
        for (int place : new int[] {0, -1, 1, Integer.MAX_VALUE, Integer.MIN_VALUE}) {
            Wordnet x = new Wordnet();
            CHECK.outOfBounds("packed without a pack at " + place, x, () -> x.packed(place));
            CHECK.outOfBounds("poke without a pack at " + place, x, () -> x.poke(place, 0));
        }
        Wordnet x = Check.with("ab");
        x.pack(0);
        x.pack(1);
        CHECK.outOfBounds("packed where a longer pack had a number", x, () -> x.packed(5));
        CHECK.outOfBounds("poke where a longer pack had a number", x, () -> x.poke(5, 0));
    }
}
