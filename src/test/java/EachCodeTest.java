/**
 * The asks that take a CODE, for every CODE there is (those that measure distances for some), of nets of many kinds,
 * each answer held against the Model: so that no single word, length or place is answered otherwise than the others.
 */
public final class EachCodeTest {
    private static final int CODES = 5461;
    /** Setting up takes some calls, and an object is for 512 calls. */
    private static final int MOST_CALLS = 480;
    private static final int KINDS = 6;

    private int wrong = 0;
    private int made = 0;
    private Caller caller;

    public static void main(String[] args) {
        EachCodeTest test = new EachCodeTest();
        for (int kind = 0; kind < KINDS; kind++) {
            test.askOfNet(kind);
            test.choose(kind);
            test.choosePerPlaces(kind);
            test.measure(kind);
        }
        System.out.println(test.made + " objects, " + test.wrong + " answers not as due");
        System.exit(test.wrong == 0 && test.made > 0 ? 0 : 1);
    }

    private void same(String name, Object... arguments) {
        if (wrong < 10 && !caller.isSame(name, arguments)) {
            wrong++;
        }
    }

    private void makeObject(int kind) {
        made++;
        caller = new Caller("nets of kind " + kind);
        switch (kind) {
            case 0:
                same("sow", 0, 0, 1, 60);
                same("sow", 0, 60, 1, 60);
                break;
            case 1:
                same("sow", 0, 1365, 34, 60);
                same("sow", 0, 3405, 34, 60);
                break;
            case 2:
                same("fill", 0, Model.codeOf("abcabc"), 42);
                same("fill", 0, Model.codeOf("bab"), 7);
                same("least", 0);
                break;
            case 3:
                same("sow", 0, 5, 43, 60);
                same("sow", 0, 9, 91, 60);
                same("least", 0);
                break;
            case 4:
                same("fill", 0, Model.codeOf("aaaaaa"), 48);
                same("fill", 0, Model.codeOf("dddddd"), 3);
                same("fill", 0, Model.codeOf("adad"), 9);
                same("fill", 0, Model.codeOf("aa"), 3);
                same("tell", 0, 0);
                same("least", 0);
                break;
            default:
                for (String word : new String[] {"", "d", "abcdab", "bcdab", "cdab", "dabcda", "abcda", "abab"}) {
                    same("tell", 0, Model.codeOf(word));
                }
        }
        same("enter", 0);
    }

    /** Makes an object anew, when the calls are used up; what it is at its end is told by the checksum. */
    private void need(int kind, int calls) {
        if (caller != null && caller.calls() + calls > MOST_CALLS) {
            same("digest");
            same("isSound");
            caller = null;
        }
        if (caller == null) {
            makeObject(kind);
        }
    }

    private void askOfNet(int kind) {
        caller = null;
        for (int code = 0; code < CODES; code++) {
            need(kind, 12);
            for (String ask : new String[] {"has", "below", "rank", "letters", "state", "falls"}) {
                same(ask, 0, code);
            }
            same("firstLetter", 0, code, code % 2 == 0);
            same("lettersBetween", 0, code, code % 3, code % 5);
            for (int way = 0; way <= 3; way++) {
                same("next", 0, code, way);
            }
        }
    }

    private void choose(int kind) {
        caller = null;
        for (int code = 0; code < CODES; code++) {
            need(kind, 8);
            int extra = code * 7 % 64;
            for (int how : new int[] {0, 1, 2, 4}) {
                same("count", 0, how, code, extra);
            }
            same("gather", 0, new int[] {0, 1, 2, 4}[code % 4], code, extra);
            same("listed", code % 3);
            same("ofList", 3);
            same("listBetween", code, (code + 1365) % CODES);
        }
    }

    /** By all sets of places and all distances, from words of each length. */
    private void choosePerPlaces(int kind) {
        caller = null;
        for (String word : new String[] {"", "b", "ad", "bab", "adad", "abcda", "abcabc", "dddaaa"}) {
            for (int extra = 0; extra <= 63; extra++) {
                need(kind, 3);
                same("gather", 0, 2, Model.codeOf(word), extra);
                same("ofList", 1);
                same("ofList", 2);
            }
            for (int extra = 0; extra <= 7; extra++) {
                need(kind, 3);
                same("gather", 0, 3, Model.codeOf(word), extra);
                same("ofList", 1);
                same("ofList", 3);
            }
        }
    }

    /** The Model takes its time for distances, so these are asked of some words only, of each length. */
    private void measure(int kind) {
        caller = null;
        for (int code = kind; code < CODES; code += 1 + code / 20) {
            need(kind, 3);
            same("nearest", 0, code);
            same("count", 0, 3, code, code % 6);
            same("distance", code, code * 29 % CODES);
        }
    }
}
