import java.util.Map;
import java.util.TreeMap;

/** Long runs of thrown calls, right ones and wrong ones, each held against the Model. */
public final class RunsTest {
    private static final String[] CHANGES = {
        "tell", "tell", "tell", "take", "take", "sow", "sow", "fill", "fill", "prune", "clear", "least", "loose",
        "mix", "copy", "turn", "pack", "poke", "poke", "unpack", "gather", "gather", "spread", "listPoll", "say", "say",
        "say", "hush", "enter", "step", "step", "step", "back", "knock"
    };
    private static final String[] ASKS = {
        "has", "ofNet", "ofNet", "below", "rank", "atRank", "pick", "next", "letters", "firstLetter", "lettersBetween",
        "words", "count", "count", "distance", "nearest", "state", "line", "parting", "common", "alike", "text", "sign",
        "falls", "matches", "match", "longest", "cut", "listed", "ofList", "listBetween", "packed", "ofPack", "cursor",
        "isSound", "digest"
    };
    private static final Map<String, Integer> ANSWERS = new TreeMap<>();

    private final Dice dice;
    private final Caller caller;
    private final int family;

    private RunsTest(int seed) {
        dice = new Dice(seed);
        caller = new Caller("run " + seed);
        family = seed / 3 % 4;
    }

    public static void main(String[] args) {
        int wrong = 0;
        for (int seed = 0; seed < 480 && wrong < 5; seed++) {
            int length = seed % 40 == 0 ? 511 : 120;
            wrong += new RunsTest(seed).isRunRight(length) ? 0 : 1;
        }
        wrong += isMissing("unpack -> -5") + isMissing("unpack -> -6") + isMissing("unpack -> -9");
        wrong += isMissing("tell -> throws.IllegalStateException") + isMissing("mix -> throws.IllegalStateException");
        wrong += isMissing("say -> throws.IllegalStateException") + isMissing("longest -> 0") + isMissing("next -> -1");
        System.out.println(wrong == 0 ? "all runs are as the model's" : "runs that are not as the model's");
        System.exit(wrong == 0 ? 0 : 1);
    }

    /** The runs say little, if they never come to the rare answers. */
    private static int isMissing(String answer) {
        if (ANSWERS.containsKey(answer)) {
            return 0;
        }
        System.out.println("no run came to " + answer);
        return 1;
    }

    private boolean isRunRight(int length) {
        if (family == 3 && !isChainRight()) {
            return false;
        }
        while (caller.calls() < length) {
            String name = dice.isOneIn(2) ? CHANGES[dice.below(CHANGES.length)] : ASKS[dice.below(ASKS.length)];
            boolean isLeftOut = name.equals("hush") && family != 0 && !dice.isOneIn(8);
            if (!isLeftOut && !isCallRight(name)) {
                return false;
            }
        }
        return caller.isSame("digest");
    }

    /** A pack that is a chain, from which pokes make very many words at once. */
    private boolean isChainRight() {
        boolean isRight = caller.isSame("tell", 0, Model.codeOf("aaaaaa".substring(dice.below(4))));
        isRight = isRight && caller.isSame("pack", 0);
        for (int k = 0; k < 12 && isRight; k++) {
            int state = dice.below(caller.manyPacked() / 5);
            isRight = caller.isSame("poke", 5 * state, 1)
                    && caller.isSame("poke", 5 * state + dice.between(1, 4), Math.min(state + 1, caller.manyPacked() / 5 - 1))
                    && isCallRight("unpack");
        }
        return isRight;
    }

    private boolean isCallRight(String name) {
        boolean isRight = caller.isSame(name, argumentsOf(name));
        ANSWERS.merge(name + " -> " + caller.answer(), 1, Integer::sum);
        return isRight;
    }

    private int edge() {
        return dice.oneOf(-1, -2, Integer.MIN_VALUE, Integer.MAX_VALUE, 5461, 64, 121, 7, 10);
    }

    private int net() {
        return dice.isOneIn(40) ? dice.oneOf(-1, 3, Integer.MIN_VALUE, Integer.MAX_VALUE) : dice.below(3);
    }

    private int code() {
        if (dice.isOneIn(30)) {
            return edge();
        }
        if (dice.isOneIn(6)) {
            return dice.below(5461);
        }
        if (dice.isOneIn(3)) {
            return dice.below(85);
        }
        int letters = dice.below(7);
        int kinds = family == 0 ? 2 : family == 1 ? 4 : 3;
        int code = 0;
        for (int k = 0; k < letters; k++) {
            code = 4 * code + dice.below(kinds) + 1;
        }
        return code;
    }

    /** Mostly within the bounds, sometimes just outside, sometimes far. */
    private int bounded(int lowest, int highest) {
        if (dice.isOneIn(20)) {
            return dice.oneOf(lowest - 1, highest + 1, edge());
        }
        return dice.between(lowest, highest);
    }

    private int places() {
        return dice.isOneIn(2) ? dice.oneOf(0, 1, 2, 3, 7) : bounded(0, 63);
    }

    private int pokedNumber() {
        int states = caller.manyPacked() / 5;
        return dice.isOneIn(3) ? dice.oneOf(0, 1, -1) : bounded(-1, Math.max(0, states - 1));
    }

    private int rank() {
        return bounded(0, dice.isOneIn(3) ? 125 : Math.max(0, caller.manyWords(0)));
    }

    private Object[] argumentsOf(String name) {
        switch (name) {
            case "tell": case "take": case "prune": case "has": case "below": case "rank": case "letters":
            case "nearest": case "state": case "falls":
                return new Object[] {net(), code()};
            case "clear": case "least": case "loose": case "turn": case "pack": case "unpack": case "spread":
            case "enter": case "matches": case "cut":
                return new Object[] {net()};
            case "sow":
                return new Object[] {net(), code(), code(), bounded(1, dice.isOneIn(2) ? 6 : 60)};
            case "fill":
                return new Object[] {net(), code(), places()};
            case "mix": case "common":
                return new Object[] {net(), net(), bounded(0, 3)};
            case "copy": case "parting": case "alike":
                return new Object[] {net(), net()};
            case "poke":
                return new Object[] {bounded(0, Math.max(0, caller.manyPacked() - 1)), pokedNumber()};
            case "gather": case "count":
                return new Object[] {net(), bounded(0, 4), code(), dice.isOneIn(2) ? dice.below(7) : bounded(0, 63)};
            case "listPoll":
                return new Object[] {dice.isOneIn(2)};
            case "say":
                return new Object[] {code()};
            case "step":
                return new Object[] {bounded(-1, 3)};
            default:
                return argumentsOfAsk(name);
        }
    }

    private Object[] argumentsOfAsk(String name) {
        switch (name) {
            case "ofNet":
                return new Object[] {net(), bounded(0, 9)};
            case "atRank":
                return new Object[] {net(), rank()};
            case "pick":
                return new Object[] {net(), dice.isOneIn(2) ? dice.between(-300, 300) : edge()};
            case "next":
                return new Object[] {net(), code(), bounded(0, 3)};
            case "firstLetter":
                return new Object[] {net(), code(), dice.isOneIn(2)};
            case "lettersBetween":
                return new Object[] {net(), code(), bounded(0, 4), bounded(0, 4)};
            case "words":
                return new Object[] {net(), rank(), bounded(1, 20)};
            case "distance": case "listBetween":
                return new Object[] {code(), code()};
            case "line":
                return new Object[] {net(), bounded(0, dice.isOneIn(2) ? 8 : 200), bounded(0, 3)};
            case "match":
                return new Object[] {net(), bounded(0, dice.isOneIn(2) ? 3 : 60), bounded(0, 2)};
            case "sign":
                return new Object[] {bounded(0, 60)};
            case "longest":
                return new Object[] {net(), bounded(0, dice.isOneIn(2) ? 8 : 60)};
            case "listed":
                return new Object[] {bounded(0, dice.isOneIn(2) ? 3 : 60)};
            case "packed":
                return new Object[] {bounded(0, Math.max(0, caller.manyPacked() - 1))};
            case "ofList":
                return new Object[] {bounded(0, 3)};
            case "ofPack":
                return new Object[] {bounded(0, 2)};
            case "cursor":
                return new Object[] {bounded(0, 4)};
            default:
                return new Object[] {};
        }
    }
}
