import java.util.function.Supplier;
import java.util.function.ToLongFunction;

/**
 * The rule of 2. for every call that can be refused, in nets of each kind: the answer, and that nothing has changed
 * but what the document says.
 */
public final class Refused {
    private static final int MIN = Integer.MIN_VALUE;
    private static final int MAX = Integer.MAX_VALUE;
    private static final long THROWN = Long.MIN_VALUE;
    private static final int[] NO_TERMS = {-1, 24, 25, 31, 32, 55, 64, MIN, MAX};
    private static final int[] NO_ITEMS = {-1, 40, 41, 63, 64, 103, MIN, MAX};

    /** A call of the face with two numbers. */
    private interface Pair {
        long on(SubjectNet net, int x, int y);
    }

    private Refused() {
    }

    public static void main(String[] args) {
        inEachState(Nets::empty, "empty: ");
        inEachState(Nets::few, "few: ");
        inEachState(Nets::full, "full: ");
        inEachState(Nets::undone, "undone: ");
        inEachState(Nets::returned, "returned: ");
        inANewObject();
        inAFew();
        inAFull();
        rings();
        questions(Nets::empty, "empty: ");
        questions(Nets::few, "few: ");
        questions(Nets::full, "full: ");
        questions(Nets::undone, "undone: ");
        questions(Nets::returned, "returned: ");
        Check.finish("Refused");
    }

    private static void inEachState(Supplier<SubjectNet> start, String state) {
        wrongTerms(start, state);
        wrongPairs(start, state);
        wrongItems(start, state);
        wrongNumbers(start, state);
        wrongTexts(start, state);
    }

    private static void wrongTerms(Supplier<SubjectNet> start, String state) {
        for (int t : NO_TERMS) {
            String of = "(" + t + ")";
            Same.nothing(state + "labels" + of, start, net -> net.labels(t), -1);
            Same.nothing(state + "depth" + of, start, net -> net.depth(t), -1);
            Same.nothing(state + "place" + of, start, net -> Check.placeOf(net, t), THROWN);
            Same.nothing(state + "at" + of, start, net -> Check.placed(net, t), THROWN);
            for (int what = -1; what <= 4; what++) {
                int w = what;
                Same.nothing(state + "kin(" + t + ", " + w + ")", start, net -> net.kin(t, w), -1);
            }
            for (int heirs = -1; heirs <= 2; heirs++) {
                int h = heirs;
                Same.nothing(state + "goes(" + t + ", " + h + ")", start, net -> net.goes(t, h), -1);
            }
            for (String text : new String[] {"", "y", "a", "1", "abc"}) {
                Same.emptied(state + "label" + of + " of " + text, start, net -> Check.label(net, text, t), -300);
            }
        }
        for (int wrong : new int[] {-1, 4, 5, MIN, MAX}) {
            Same.nothing(state + "kin(0, " + wrong + ")", start, net -> net.kin(0, wrong), -1);
        }
        for (int wrong : new int[] {-1, 2, 3, MIN, MAX}) {
            Same.nothing(state + "goes(0, " + wrong + ")", start, net -> net.goes(0, wrong), -1);
        }
    }

    private static void wrongPairs(Supplier<SubjectNet> start, String state) {
        pairs(start, state + "links", SubjectNet::links, false);
        pairs(start, state + "unlinks", SubjectNet::unlinks, false);
        pairs(start, state + "would", SubjectNet::would, false);
        pairs(start, state + "way", SubjectNet::way, false);
        pairs(start, state + "ways", SubjectNet::ways, false);
        pairs(start, state + "between", SubjectNet::between, false);
        pairs(start, state + "merges", SubjectNet::merges, false);
        pairs(start, state + "meets", SubjectNet::meets, true);
        pairs(start, state + "steps", SubjectNet::steps, true);
    }

    private static void pairs(Supplier<SubjectNet> start, String name, Pair pair, boolean mayBeOne) {
        for (int t : NO_TERMS) {
            Same.nothing(name + "(" + t + ", 0)", start, net -> pair.on(net, t, 0), -1);
            Same.nothing(name + "(0, " + t + ")", start, net -> pair.on(net, 0, t), -1);
            Same.nothing(name + "(" + t + ", " + t + ")", start, net -> pair.on(net, t, t), -1);
        }
        for (int t = 0; t < 24 && !mayBeOne; t += 4) {
            int one = t;
            Same.nothing(name + " of one and the same, " + t, start, net -> pair.on(net, one, one), -1);
        }
    }

    private static void wrongItems(Supplier<SubjectNet> start, String state) {
        for (int item : NO_ITEMS) {
            Same.nothing(state + "posted(" + item + ")", start, net -> net.posted(item), -1);
            Same.nothing(state + "posts(" + item + ", 0)", start, net -> net.posts(item, 0), -1);
            Same.nothing(state + "posts(" + item + ", 24)", start, net -> net.posts(item, 24), -1);
            Same.nothing(state + "unposts(" + item + ", 0)", start, net -> net.unposts(item, 0), -1);
            Same.nothing(state + "unposts(" + item + ", 24)", start, net -> net.unposts(item, 24), -1);
        }
        for (int t : NO_TERMS) {
            Same.nothing(state + "posts(0, " + t + ")", start, net -> net.posts(0, t), -1);
            Same.nothing(state + "posts(39, " + t + ")", start, net -> net.posts(39, t), -1);
            Same.nothing(state + "unposts(0, " + t + ")", start, net -> net.unposts(0, t), -1);
            Same.nothing(state + "unposts(39, " + t + ")", start, net -> net.unposts(39, t), -1);
        }
    }

    private static void wrongNumbers(Supplier<SubjectNet> start, String state) {
        for (int n : new int[] {-1, 3, 80, 81, MIN, MAX}) {
            Same.nothing(state + "end(" + n + ")", start, net -> net.end(n) ? 1 : 0, 0);
        }
        for (int set : new int[] {-1, MIN, MAX, 1 << 24, 1 << 30, 3 << 23, MIN + 1}) {
            Same.nothing(state + "apart(" + set + ")", start, net -> net.apart(set), -1);
        }
        for (int n : new int[] {0, -1, 61, MIN, MAX}) {
            Same.nothing(state + "years(7, " + n + ")", start, net -> net.years(7, n), -1);
        }
        for (int i : new int[] {-1, 2, 3, MIN, MAX}) {
            Same.nothing(state + "keep(" + i + ")", start, net -> net.keep(i) ? 1 : 0, 0);
            Same.nothing(state + "again(" + i + ")", start, net -> net.again(i) ? 1 : 0, 0);
        }
        for (int what : new int[] {-1, 8, 9, MIN, MAX}) {
            Same.nothing(state + "count(" + what + ")", start, net -> net.count(what), -1);
        }
        for (int i : new int[] {-1, 24, 276, MIN, MAX}) {
            Same.nothing(state + "row(" + i + ")", start, net -> Check.number(net, i), THROWN);
        }
    }

    private static void wrongTexts(Supplier<SubjectNet> start, String state) {
        String[] names = {"", "1", "A", "a ", "q.", "qxx", "aaa", "q\u0000", "\u00e1"};
        int[] signs = {0, 0, 0, 1, 1, 2, 2, 1, 0};
        for (int i = 0; i < names.length; i++) {
            String text = names[i];
            int due = -1 - signs[i];
            Same.emptied(state + "term " + text, start, net -> Check.term(net, text), due);
            Same.emptied(state + "named " + text, start, net -> Check.named(net, text), due);
        }
        Same.emptied(state + "named qy", start, net -> Check.named(net, "qy"), -100);
        for (String text : new String[] {",", ">", " ", "yy>a", "qqq", "\u00ff", "*"}) {
            Same.emptied(state + "net " + text, start, net -> Check.net(net, text), -1);
        }
        for (String text : new String[] {"", "*", "+", "yy", "yy+a", "qqq", "\u00ff", "-a"}) {
            Same.emptied(state + "search " + text, start, net -> Check.search(net, text), -1);
        }
        String[] days = {"x", "l", "l000", "g00", "tl00a1", "p0000p", "u0001 ", "m00010", "T", "t\u0000", "g0021"};
        int[] places = {0, 1, 4, 3, 4, 6, 5, 5, 0, 1, 4};
        for (int i = 0; i < days.length; i++) {
            String text = days[i];
            Same.emptied(state + "day " + text, start, net -> Check.day(net, text), -1 - places[i]);
        }
    }

    private static void inANewObject() {
        Supplier<SubjectNet> start = Nets::empty;
        Same.nothing("new: labels(0)", start, net -> net.labels(0), -1);
        Same.emptied("new: label(0)", start, net -> Check.label(net, "a", 0), -300);
        Same.emptied("new: net", start, net -> Check.net(net, "a>b"), -1);
        Same.emptied("new: search", start, net -> Check.search(net, "a"), -1);
        Pair[] pairs = {SubjectNet::links, SubjectNet::unlinks, SubjectNet::would, SubjectNet::way, SubjectNet::ways,
            SubjectNet::between, SubjectNet::meets, SubjectNet::steps, SubjectNet::merges};
        for (int i = 0; i < pairs.length; i++) {
            Pair pair = pairs[i];
            Same.nothing("new: pair " + i + " (0, 1)", start, net -> pair.on(net, 0, 1), -1);
            Same.nothing("new: pair " + i + " (0, 0)", start, net -> pair.on(net, 0, 0), -1);
        }
        Same.nothing("new: place(0)", start, net -> Check.placeOf(net, 0), THROWN);
        Same.nothing("new: at(0)", start, net -> Check.placed(net, 0), THROWN);
        Same.nothing("new: kin(0, 0)", start, net -> net.kin(0, 0), -1);
        Same.nothing("new: depth(0)", start, net -> net.depth(0), -1);
        Same.nothing("new: apart(1)", start, net -> net.apart(1), -1);
        Same.nothing("new: posts(0, 0)", start, net -> net.posts(0, 0), -1);
        Same.nothing("new: unposts(0, 0)", start, net -> net.unposts(0, 0), -1);
        Same.nothing("new: goes(0, 0)", start, net -> net.goes(0, 0), -1);
        Same.nothing("new: goes(0, 1)", start, net -> net.goes(0, 1), -1);
        Same.nothing("new: thins()", start, SubjectNet::thins, -2);
        Same.nothing("new: undo()", start, SubjectNet::undo, -1);
        Same.nothing("new: again(0)", start, net -> net.again(0) ? 1 : 0, 0);
        Same.nothing("new: again(1)", start, net -> net.again(1) ? 1 : 0, 0);
        Same.nothing("new: row(0)", start, net -> Check.number(net, 0), THROWN);
    }

    private static void inAFew() {
        Supplier<SubjectNet> start = Nets::few;
        Same.emptied("few: term told already", start, net -> Check.term(net, "aa"), -100);
        Same.emptied("few: label told already", start, net -> Check.label(net, "z", 0), -100);
        Same.emptied("few: label of its own", start, net -> Check.label(net, "aa", 0), -100);
        Same.emptied("few: label of one that has gone", start, net -> Check.label(net, "y", 2), -300);
        Same.emptied("few: label empty", start, net -> Check.label(net, "", 0), -1);
        Same.emptied("few: label wrong", start, net -> Check.label(net, "yyy", 0), -3);
        Same.emptied("few: named, gone", start, net -> Check.named(net, "c"), -100);
        Same.nothing("few: links, there", start, net -> net.links(0, 1), -2);
        Same.nothing("few: links, gone", start, net -> net.links(0, 2), -1);
        Same.nothing("few: unlinks, none", start, net -> net.unlinks(5, 4), -2);
        Same.nothing("few: unlinks, the other way round", start, net -> net.unlinks(1, 0), -2);
        Same.nothing("few: unlinks, gone", start, net -> net.unlinks(2, 3), -1);
        String[] nets = {"a", "a>", "a>b,", "a>bb", "a>b,c>d", "g>a>b", "g>a,a>b,b>d;", "g>a,g>y", "a>b,,", "g>a,g"};
        int[] signs = {1, 2, 4, 2, 4, 3, 11, 6, 4, 5};
        for (int i = 0; i < nets.length; i++) {
            String text = nets[i];
            Same.emptied("few: net " + text, start, net -> Check.net(net, text), -1 - signs[i]);
        }
        Same.nothing("few: place(2), gone", start, net -> Check.placeOf(net, 2), THROWN);
        Same.nothing("few: at(6)", start, net -> Check.placed(net, 6), THROWN);
        Same.nothing("few: would, there", start, net -> net.would(0, 1), -2);
        Same.nothing("few: would, gone", start, net -> net.would(2, 1), -1);
        for (int what = 0; what < 4; what++) {
            int w = what;
            Same.nothing("few: kin(2, " + w + "), gone", start, net -> net.kin(2, w), -1);
        }
        Pair[] ways = {SubjectNet::way, SubjectNet::ways, SubjectNet::between};
        for (int i = 0; i < ways.length; i++) {
            Pair pair = ways[i];
            Same.nothing("few: no way upwards, " + i, start, net -> pair.on(net, 4, 5), -2);
            Same.nothing("few: no way to one apart, " + i, start, net -> pair.on(net, 0, 6), -2);
            Same.nothing("few: no way to one gone, " + i, start, net -> pair.on(net, 0, 2), -1);
        }
        Same.nothing("few: meets, gone", start, net -> net.meets(2, 2), -1);
        Same.nothing("few: steps, gone", start, net -> net.steps(2, 2), -1);
        Same.nothing("few: steps, no road", start, net -> net.steps(6, 0), -2);
        Same.nothing("few: depth, gone", start, net -> net.depth(2), -1);
        Same.nothing("few: apart, gone", start, net -> net.apart(7), -1);
        inAFewMore(start);
    }

    private static void inAFewMore(Supplier<SubjectNet> start) {
        Same.nothing("few: posts, is", start, net -> net.posts(39, 4), -2);
        Same.nothing("few: posts, gone", start, net -> net.posts(39, 2), -1);
        Same.nothing("few: unposts, is not", start, net -> net.unposts(39, 0), -2);
        Same.nothing("few: unposts, gone", start, net -> net.unposts(39, 2), -1);
        String[] searches = {"a+", "a**", "a&yy", "a*b", "aa-", "a>b", "a+b*-c"};
        int[] places = {2, 2, 2, 2, 3, 1, 5};
        for (int i = 0; i < searches.length; i++) {
            String text = searches[i];
            Same.emptied("few: search " + text, start, net -> Check.search(net, text), -1 - places[i]);
        }
        Same.nothing("few: goes, gone", start, net -> net.goes(2, 1), -1);
        Same.nothing("few: merges, gone", start, net -> net.merges(0, 2), -1);
        Same.nothing("few: again(0), nothing kept", start, net -> net.again(0) ? 1 : 0, 0);
        Supplier<SubjectNet> thin = () -> {
            SubjectNet net = Nets.few();
            net.thins();
            return net;
        };
        Same.nothing("few: thins, none", thin, SubjectNet::thins, -2);
        Supplier<SubjectNet> back = () -> {
            SubjectNet net = Nets.few();
            while (net.count(5) > 0) {
                net.undo();
            }
            return net;
        };
        Same.nothing("few: undo, none", back, SubjectNet::undo, -1);
        Same.nothing("returned: undo, none", Nets::returned, SubjectNet::undo, -1);
    }

    private static void inAFull() {
        Supplier<SubjectNet> start = Nets::full;
        Same.emptied("full: term", start, net -> Check.term(net, "yy"), -200);
        Same.emptied("full: term told already", start, net -> Check.term(net, "za"), -100);
        Same.emptied("full: label", start, net -> Check.label(net, "yy", 23), -200);
        Same.emptied("full: label told already", start, net -> Check.label(net, "a", 23), -100);
        Same.emptied("full: label wrong", start, net -> Check.label(net, "yyy", 23), -3);
        Same.nothing("full: at(24)", start, net -> Check.placed(net, 24), THROWN);
        Same.nothing("full: thins", start, SubjectNet::thins, -2);
        Same.nothing("full: row(24)", start, net -> Check.number(net, 24), THROWN);
        Supplier<SubjectNet> long80 = () -> {
            SubjectNet net = Nets.full();
            Check.text(net, "a".repeat(80));
            return net;
        };
        Same.nothing("full: sign", long80, net -> net.sign(0x62626262), -1);
        Same.nothing("full: end(81)", long80, net -> net.end(81) ? 1 : 0, 0);
        for (int size = 77; size < 80; size++) {
            String text = "a".repeat(size);
            Supplier<SubjectNet> nearly = () -> {
                SubjectNet net = Nets.few();
                Check.text(net, text);
                return net;
            };
            Same.nothing("sign behind " + size, nearly, net -> net.sign(0x62626262), -1);
            Same.nothing("sign behind " + size + ", twice", nearly, net -> net.sign(0) + net.sign(1), -2);
        }
    }

    /** Where it is said, the ROW tells a WAY with an answer below 0; all else stays. */
    private static void rings() {
        Supplier<SubjectNet> few = Nets::few;
        Same.alike("few: links(4, 5)", few, net -> net.links(4, 5), -4, net -> net.way(5, 4), true);
        Same.alike("few: links(1, 0)", few, net -> net.links(1, 0), -4, net -> net.way(0, 1), true);
        Same.alike("few: would(4, 5)", few, net -> net.would(4, 5), -4, net -> net.way(5, 4), true);
        Same.alike("few: would(1, 0)", few, net -> net.would(1, 0), -4, net -> net.way(0, 1), true);
        Same.alike("few: merges(5, 3)", few, net -> net.merges(5, 3), -4, net -> net.way(5, 3), true);
        Same.alike("few: merges(3, 5)", few, net -> net.merges(3, 5), -4, net -> net.way(5, 3), true);
        Supplier<SubjectNet> full = Nets::full;
        Same.alike("full: links(0, 23)", full, net -> net.links(0, 23), -4, net -> net.way(23, 0), true);
        Same.alike("full: would(0, 23)", full, net -> net.would(0, 23), -4, net -> net.way(23, 0), true);
        Same.alike("full: links(7, 8)", full, net -> net.links(7, 8), -4, net -> net.way(8, 7), true);
        Same.alike("full: merges(0, 23)", full, net -> net.merges(0, 23), -4, net -> net.way(23, 0), true);
        Same.alike("full: merges(9, 7)", full, net -> net.merges(9, 7), -4, net -> net.way(9, 7), true);
    }

    /** Questions change nothing: neither what is, nor what can be undone, nor what is kept. */
    private static void questions(Supplier<SubjectNet> start, String state) {
        Pair[] pairs = {SubjectNet::would, SubjectNet::way, SubjectNet::ways, SubjectNet::between, SubjectNet::meets,
            SubjectNet::steps, SubjectNet::kin};
        int[][] terms = {{0, 1}, {1, 0}, {5, 4}, {4, 5}, {6, 0}, {0, 2}, {3, 3}};
        for (int i = 0; i < pairs.length; i++) {
            Pair pair = pairs[i];
            for (int[] xy : terms) {
                Same.question(state + "question " + i + " of " + xy[0] + ", " + xy[1], start,
                    net -> pair.on(net, xy[0], xy[1]));
            }
        }
        ask(start, state + "labels", net -> net.labels(0));
        ask(start, state + "place", net -> Check.placeOf(net, 5));
        ask(start, state + "at", net -> Check.placed(net, 2));
        ask(start, state + "depth", net -> net.depth(4));
        ask(start, state + "tops", SubjectNet::tops);
        ask(start, state + "needless", SubjectNet::needless);
        ask(start, state + "chains", SubjectNet::chains);
        ask(start, state + "apart", net -> net.apart(net.count(1)));
        ask(start, state + "posted", net -> net.posted(5));
        ask(start, state + "years", net -> net.years(99, 60));
        ask(start, state + "years of one", net -> net.years(-5, 1));
        for (int what = 0; what < 8; what++) {
            int w = what;
            ask(start, state + "count(" + w + ")", net -> net.count(w));
        }
        ask(start, state + "row(0)", net -> Check.number(net, 0));
        for (String text : new String[] {"aa", "a", "y"}) {
            Same.textQuestion(state + "named " + text, start, net -> Check.named(net, text));
        }
        for (String text : new String[] {"a*", "a+b*&d-e", "y"}) {
            Same.textQuestion(state + "search " + text, start, net -> Check.search(net, text));
        }
    }

    private static void ask(Supplier<SubjectNet> start, String what, ToLongFunction<SubjectNet> call) {
        Same.question(what, start, call);
    }
}
