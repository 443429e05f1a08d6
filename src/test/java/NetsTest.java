/** Promises 8 to 12 and 41 to 43: nets as a whole, and two of them. */
public final class NetsTest {
    private static final Check CHECK = new Check();

    public static void main(String[] args) {
        leastAndLoose();
        leastStays();
        leastOfManyNets();
        mix();
        mixTooMany();
        copy();
        turn();
        parting();
        common();
        alike();
        CHECK.end();
    }

    private static void leastAndLoose() {
        Wordnet x = Check.with("ab", "bb", "c");
        CHECK.same("states of a loose net", x.ofNet(0, 1), 6);
        CHECK.same("least", x.least(0), 3);
        CHECK.same("states of a least net", x.ofNet(0, 1), 3);
        CHECK.same("it is least", x.ofNet(0, 3), 1);
        CHECK.same("least again", x.least(0), 0);
        CHECK.same("loose", x.loose(0), 3);
        CHECK.same("it is loose", x.ofNet(0, 3), 0);
        CHECK.same("loose again", x.loose(0), 0);
        CHECK.same("least without words", x.least(1), 0);
        CHECK.same("it is least, too", x.ofNet(1, 3), 1);
        CHECK.same("the other net is loose", x.ofNet(2, 3), 0);
        CHECK.same("loose without words", x.loose(1), 0);
        CHECK.noSuchNet("least", x, x::least);
        CHECK.noSuchNet("loose", x, x::loose);
    }

    private static void leastStays() {
        Wordnet x = Check.with("ab", "bb");
        CHECK.same("least of two", x.least(0), 2);
        x.tell(0, Check.code("b"));
        CHECK.same("a told word parts the states", x.ofNet(0, 1), 4);
        CHECK.same("told: least", x.ofNet(0, 3), 1);
        x.turn(0);
        CHECK.same("turned: least", x.ofNet(0, 3), 1);
        x.mix(0, 1, 1);
        CHECK.same("mixed: least", x.ofNet(0, 3), 1);
        CHECK.same("mixed: no words", x.ofNet(0, 0), 0);
        CHECK.same("mixed: one state", x.ofNet(0, 1), 1);
        x.sow(0, 5, 1, 9);
        CHECK.same("sown: least", x.ofNet(0, 3), 1);
        x.fill(0, 5, 3);
        x.prune(0, 1);
        CHECK.same("filled and pruned: least", x.ofNet(0, 3), 1);
    }

    /** One object that had many nets before has to answer as a new one that has just this net. */
    private static void leastOfManyNets() {
        Wordnet x = new Wordnet();
        for (int k = 0; k < 120; k++) {
            Wordnet y = new Wordnet();
            x.clear(0);
            x.sow(0, 1365 + k * 7, 89 + k, 60);
            y.sow(0, 1365 + k * 7, 89 + k, 60);
            CHECK.same("least states of net " + k, x.ofNet(0, 4), y.ofNet(0, 4));
            CHECK.same("a state of net " + k, x.state(0, 1), y.state(0, 1));
        }
    }

    private static Wordnet twoNets() {
        Wordnet x = Check.with("", "a", "ab", "c");
        Check.tell(x, 1, "a", "b", "c", "cd");
        return x;
    }

    private static void mix() {
        String[] due = {"- a ab b c cd", "a c", "- ab", "- ab b cd"};
        int[] many = {6, 2, 2, 4};
        for (int how = 0; how <= 3; how++) {
            Wordnet x = twoNets();
            CHECK.same("mix by " + how, x.mix(0, 1, how), many[how]);
            CHECK.same("mixed by " + how, Check.all(x, 0), due[how]);
            CHECK.same("the other of mix by " + how, Check.all(x, 1), "a b c cd");
        }
        int[] itself = {4, 4, 0, 0};
        for (int how = 0; how <= 3; how++) {
            Wordnet x = twoNets();
            CHECK.same("mix with itself by " + how, x.mix(0, 0, how), itself[how]);
            CHECK.same("words mixed with itself by " + how, x.ofNet(0, 0), itself[how]);
        }
        Wordnet x = twoNets();
        x.mix(1, 0, 2);
        CHECK.same("mix the other way", Check.all(x, 1), "b cd");
        CHECK.noSuchNet("mix", x, net -> x.mix(net, 0, 0));
        CHECK.noSuchNet("mix of other", x, other -> x.mix(0, other, 0));
        CHECK.onlyFrom("mix how", x, 0, 3, how -> x.mix(0, 1, how));
        CHECK.outOfBounds("mix of no other and no how", x, () -> x.mix(0, 3, 4));
    }

    private static void mixTooMany() {
        Wordnet x = WordsInAndOutTest.full();
        x.sow(1, 100, 1, 20);
        CHECK.same("mix to 120", x.mix(1, 0, 0), 120);
        x.clear(1);
        x.sow(1, 101, 1, 20);
        CHECK.badState("mix to 121", x, () -> x.mix(1, 0, 0));
        CHECK.badArgument("mix to 121 by no how", x, () -> x.mix(1, 0, 4));
        CHECK.same("mix to 102", x.mix(1, 0, 3), 102);
        x.clear(1);
        x.sow(1, 1000, 1, 60);
        CHECK.badState("mix to 180", x, () -> x.mix(0, 1, 3));
    }

    private static void copy() {
        Wordnet x = twoNets();
        x.least(1);
        CHECK.same("copy", x.copy(0, 1), 4);
        CHECK.same("copied", Check.all(x, 0), "a b c cd");
        CHECK.same("copied least", x.ofNet(0, 3), 1);
        x.tell(0, 0);
        x.loose(0);
        CHECK.same("the other goes its own way", Check.all(x, 1), "a b c cd");
        CHECK.same("the other is still least", x.ofNet(1, 3), 1);
        x.take(1, 1);
        CHECK.same("the copy goes its own way", Check.all(x, 0), "- a b c cd");
        CHECK.same("copy a loose one without words", x.copy(1, 2), 0);
        CHECK.same("copied loose", x.ofNet(1, 3), 0);
        CHECK.noSuchNet("copy", x, net -> x.copy(net, 0));
        CHECK.noSuchNet("copy of other", x, other -> x.copy(0, other));
        CHECK.badArgument("copy to itself", x, () -> x.copy(2, 2));
        CHECK.outOfBounds("copy of no net to itself", x, () -> x.copy(3, 3));
    }

    private static void turn() {
        Wordnet x = Check.with("", "a", "ab", "ba", "abc", "aba", "abcdda");
        CHECK.same("turn", x.turn(0), 2);
        CHECK.same("turned", Check.all(x, 0), "- a ab aba addcba ba cba");
        CHECK.same("turn back", x.turn(0), 2);
        CHECK.same("turned back", Check.all(x, 0), "- a ab aba abc abcdda ba");
        CHECK.same("turn without words", x.turn(1), 0);
        CHECK.noSuchNet("turn", x, x::turn);
    }

    private static void parting() {
        Wordnet x = new Wordnet();
        CHECK.same("parting without words", x.parting(0, 1), -1);
        Check.tell(x, 0, "a", "bb", "cab");
        Check.tell(x, 1, "a", "ba", "cab", "aaaa");
        CHECK.same("parting", x.parting(0, 1), Check.code("ba"));
        CHECK.same("parting the other way", x.parting(1, 0), Check.code("ba"));
        CHECK.same("parting from itself", x.parting(1, 1), -1);
        x.take(1, Check.code("ba"));
        CHECK.same("parting by the first's own", x.parting(0, 1), Check.code("bb"));
        x.take(0, Check.code("bb"));
        CHECK.same("parting by the other's own", x.parting(0, 1), Check.code("aaaa"));
        x.tell(0, 0);
        CHECK.same("parting by the empty one", x.parting(1, 0), 0);
        x.take(0, 0);
        x.tell(0, Check.code("aaaa"));
        x.least(0);
        CHECK.same("nothing parts them", x.parting(0, 1), -1);
        CHECK.noSuchNet("parting", x, net -> x.parting(net, 0));
        CHECK.noSuchNet("parting of other", x, other -> x.parting(0, other));
    }

    private static void common() {
        Wordnet x = twoNets();
        int[] due = {6, 2, 2, 4};
        for (int how = 0; how <= 3; how++) {
            CHECK.same("common by " + how, x.common(0, 1, how), due[how]);
        }
        CHECK.same("common changes nothing", Check.all(x, 0), "- a ab c");
        CHECK.same("common the other way", x.common(1, 0, 2), 2);
        CHECK.same("common with itself", x.common(1, 1, 3), 0);
        Wordnet y = WordsInAndOutTest.full();
        y.sow(1, 1000, 1, 60);
        y.sow(1, 2000, 1, 60);
        CHECK.same("common of 240", y.common(0, 1, 0), 240);
        CHECK.same("common of 240 that part", y.common(0, 1, 3), 240);
        CHECK.noSuchNet("common", x, net -> x.common(net, 0, 0));
        CHECK.noSuchNet("common of other", x, other -> x.common(0, other, 0));
        CHECK.onlyFrom("common how", x, 0, 3, how -> x.common(0, 1, how));
        CHECK.outOfBounds("common of no other and no how", x, () -> x.common(0, -1, -1));
    }

    private static void alike() {
        Wordnet x = Check.with("ab", "cb");
        Check.tell(x, 1, "cb", "ab");
        x.least(1);
        CHECK.same("alike, loose and least", x.alike(0, 1), true);
        CHECK.same("alike itself", x.alike(2, 2), true);
        x.take(1, Check.code("cb"));
        CHECK.same("not alike", x.alike(0, 1), false);
        x.tell(1, Check.code("db"));
        CHECK.same("not alike by one line", x.alike(0, 1), false);
        x.copy(1, 0);
        x.tell(1, 0);
        CHECK.same("not alike by one mark", x.alike(1, 0), false);
        x.clear(0);
        CHECK.same("alike without words", x.alike(0, 2), true);
        x.tell(0, 0);
        CHECK.same("the empty word and none", x.alike(0, 2), false);
        for (String letter : new String[] {"a", "b", "c", "d"}) {
            Wordnet y = Check.with("a", "b", "c", "d");
            y.copy(1, 0);
            y.take(1, Check.code(letter));
            CHECK.same("not alike by the line of " + letter, y.alike(0, 1), false);
        }
        CHECK.noSuchNet("alike", x, net -> x.alike(net, 0));
        CHECK.noSuchNet("alike of other", x, other -> x.alike(0, other));
    }
}
