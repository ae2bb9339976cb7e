import java.io.IOException;
import java.nio.file.Path;

/** The boundary cases of "Terms" and of promises 1 to 13, sentence by sentence; arguments: the source, the document. */
public final class EdgesOfTerms {
    private static final int MIN = Integer.MIN_VALUE;
    private static final int MAX = Integer.MAX_VALUE;
    private static final long THROWN = Long.MIN_VALUE;
    private static final int ALL = (1 << 24) - 1;

    private EdgesOfTerms() {
    }

    public static void main(String[] args) throws IOException {
        the512thCall();
        numbersOfTerms();
        theLastTermAsBroader();
        theLastTermAsNarrower();
        theLastOfAllIsKept();
        theLeastNumber();
        letters();
        noTwoAlike();
        fortyLabels();
        items();
        unlikeOnes();
        first();
        belowAndAbove();
        behindAll();
        rings();
        orderStays();
        mended();
        theRow();
        bits();
        refusedCalls();
        noneComesFirst();
        theRowStays();
        p1();
        p2();
        p3();
        p4();
        p5();
        p6();
        p7();
        p8();
        p9();
        p10();
        p10WrongSigns();
        p11();
        p12();
        p13();
        Document.check(Path.of(args[1]), 0, 13);
        Check.finish("EdgesOfTerms");
    }

    private static void says(int section, String words) {
        Document.says(section, words);
    }

    /** "An object is used for at most 512 calls after it has been made": the last of them still answers rightly. */
    private static void the512thCall() {
        SubjectNet net = Check.terms(2);
        for (int call = 9; call < 512; call++) {
            boolean odd = call % 2 == 1;
            Check.due("call " + call, odd ? net.posts(call % 40, 1) : net.unposts((call - 1) % 40, 1), odd ? 1 : 0);
        }
        Check.due("the 512th call", net.undo(), 7);
    }

    // ---- Terms, 1.

    private static void numbersOfTerms() {
        says(0, "TERMS are numbered 0 .. 23");
        SubjectNet net = new SubjectNet();
        for (int t = 0; t < 24; t++) {
            Check.due("a new one", Check.term(net, "" + (char) ('a' + t)), t);
        }
        Check.due("all", net.count(1), ALL);
        Check.due("the 25th", Check.term(net, "y"), -200);
        Check.due("the last one's place", Check.placeOf(net, 23), 23);
        Check.due("the last one's labels", net.labels(23), 1);
        Check.due("no term 24", net.labels(24), -1);
        Check.due("no term -1", net.labels(-1), -1);
        Check.due("no term 32, which is not term 0", net.links(32, 1), -1);
        Check.due("no term 56, which is not term 24", net.kin(56, 2), -1);
    }

    /** 23 > 22 > 21, 23 > 21: the last TERM is looked at by each question and act as the BROADER one. */
    private static void theLastTermAsBroader() {
        says(0, "TERMS are numbered 0 .. 23");
        SubjectNet net = Check.terms(24);
        Check.net(net, "x>w,w>v,x>v,x>t");
        int last = 1 << 23;
        Check.due("broader", net.kin(22, 1), last);
        Check.due("above", net.kin(21, 3), 7 << 21);
        Check.due("needless", net.needless(), 1);
        Check.dueRow("needless", net, 2321);
        Check.due("apart", net.apart(last | 1 << 22), 0);
        Check.dueRow("apart", net, 1);
        Check.due("steps up over it", net.steps(21, 19), 2);
        Check.due("depth", net.depth(21), 2);
        Check.due("depth from it", net.depth(23), 0);
        Check.dueRow("depth from it", net, 2);
        net.posts(39, 23);
        net.posts(39, 21);
        Check.due("posted", net.posted(39), last | 1 << 21);
        Check.dueRow("posted: it has one below", net, last);
        Check.due("thins", net.thins(), 1);
        Check.due("thins: narrower", net.kin(23, 0), 1 << 22 | 1 << 19);
        net.posts(7, 22);
        Check.due("it is an heir", net.goes(22, 1), 23);
        Check.due("it is an heir: items", net.posted(7), last);
        Check.due("it is an heir: links", net.kin(23, 0), 1 << 21 | 1 << 19);
        Check.due("its narrower one goes into another", net.merges(0, 21), 22);
        Check.due("its narrower one goes into another: links", net.kin(23, 0), 1 | 1 << 19);
        Check.due("its narrower one goes", net.goes(19, 0), 21);
        Check.due("its narrower one goes: links", net.kin(23, 0), 1);
        Check.due("a new one", Check.term(net, "yy"), 19);
        Check.due("a new one is not below it", net.kin(23, 2), last | 1);
    }

    /** 0 > 1 > 23: the last TERM is looked at by each question and act as the NARROWER one. */
    private static void theLastTermAsNarrower() {
        says(0, "TERMS are numbered 0 .. 23");
        SubjectNet net = Check.terms(24);
        Check.net(net, "a>b,b>x,x>c,a>c,d>x,d>c");
        int last = 1 << 23;
        Check.due("narrower", net.kin(1, 0), last);
        Check.due("below", net.kin(0, 2), last | 7);
        Check.due("needless by it", net.needless(), 2);
        Check.dueRow("needless by it", net, 2, 302);
        Check.due("steps down to it and up", net.steps(1, 3), 2);
        Check.due("way to it", net.way(0, 23), 3);
        Check.dueRow("way to it", net, 0, 1, 23);
        Check.due("ways over it", net.ways(0, 2), 4);
        Check.dueRow("ways over it", net, 2);
        net.posts(39, 23);
        net.posts(0, 23);
        Check.due("search below", Check.search(net, "a*"), 2);
        Check.dueRow("search below", net, 0, 39);
        Check.due("it is handed on", net.goes(1, 1), 23);
        Check.due("it is handed on: links", net.kin(0, 0), last | 4);
        Check.due("its broader one goes into another", net.merges(4, 3), 22);
        Check.due("its broader one goes into another: links", net.kin(4, 0), last | 4);
        Check.due("it goes into another", net.merges(5, 23), 21);
        Check.due("it goes into another: items", net.posted(39), 32);
        Check.due("it goes into another: links", net.kin(5, 1) | net.kin(5, 0), 1 | 16 | 4);
        Check.due("it comes again", Check.term(net, "ya"), 1);
        Check.due("it comes again", Check.term(net, "yb"), 3);
        Check.due("it comes again", Check.term(net, "yc"), 23);
        Check.due("it comes again bare", net.kin(23, 2) | net.kin(23, 3), last);
    }

    /** Undo and again bring back the last TERM's LINKS and ITEMS, the last ITEM, the 40th LABEL. */
    private static void theLastOfAllIsKept() {
        says(0, "TERMS are numbered 0 .. 23");
        SubjectNet net = Check.terms(24);
        for (int i = 0; i < 15; i++) {
            Check.label(net, name(i), 0);
        }
        Check.label(net, "yq", 23);
        net.links(23, 0);
        net.posts(39, 23);
        net.keep(0);
        net.unposts(39, 23);
        Check.due("an item is back", net.undo(), 7);
        Check.due("an item is back", net.posted(39), 1 << 23);
        net.posts(38, 23);
        net.undo();
        Check.due("an item is gone again", net.posted(38), 0);
        net.unlinks(23, 0);
        net.links(23, 1);
        net.undo();
        Check.due("a link is gone again", net.kin(23, 0), 0);
        net.undo();
        Check.due("a link is back", net.kin(23, 0), 1);
        net.goes(23, 0);
        Check.due("38 labels", net.count(3), 38);
        Check.term(net, "yr");
        Check.label(net, "ys", 1);
        Check.due("40 others", net.count(3), 40);
        net.posts(5, 23);
        net.again(0);
        Check.due("the 40th label is back", Check.named(net, "yq"), 23);
        Check.due("the other one is not", Check.named(net, "ys"), -100);
        Check.due("the last term's items are back", net.posted(39), 1 << 23);
        Check.due("its other ones are not", net.posted(5), 0);
        Check.due("its links are back", net.kin(23, 0), 1);
        Check.due("its place is back", Check.placeOf(net, 23), 0);
    }

    private static void theLeastNumber() {
        says(0, "a new one has the least number that no TERM has");
        SubjectNet net = Check.terms(24);
        net.goes(17, 0);
        net.goes(0, 0);
        net.goes(23, 0);
        net.goes(5, 1);
        Check.due("the first free one", Check.term(net, "ya"), 0);
        Check.due("the second free one", Check.term(net, "yb"), 5);
        Check.due("the third free one", Check.term(net, "yc"), 17);
        Check.due("the last free one", Check.term(net, "yd"), 23);
        Check.due("none is free", Check.term(net, "ye"), -200);
        net.merges(9, 4);
        Check.due("behind a merger", Check.term(net, "ye"), 4);
        net.undo();
        net.undo();
        Check.due("behind a merger that was undone", Check.term(net, "ye"), -200);
    }

    private static void letters() {
        says(0, "one or two small letters");
        for (int v = 0; v < 256; v++) {
            boolean letter = v >= 'a' && v <= 'z';
            SubjectNet net = new SubjectNet();
            Check.due("sign " + v + " alone", Check.term(net, "" + (char) v), letter ? 0 : -1);
            Check.due("sign " + v + " alone, labels", net.count(3), letter ? 1 : 0);
            net = new SubjectNet();
            Check.due("sign " + v + " as the second", Check.term(net, "m" + (char) v), letter ? 0 : -2);
            Check.due("sign " + v + " as the second, labels", net.count(3), letter ? 1 : 0);
            Check.due("sign " + v + " as the third", Check.term(net, "nn" + (char) v), -3);
        }
    }

    private static void noTwoAlike() {
        says(0, "of all TERMS no two alike");
        SubjectNet net = Check.terms(2);
        Check.due("another term's", Check.label(net, "a", 1), -100);
        Check.due("its own", Check.label(net, "b", 1), -100);
        Check.due("a new term's", Check.term(net, "b"), -100);
        Check.due("aa is not a", Check.label(net, "aa", 1), 2);
        Check.due("ab is not aa", Check.label(net, "ab", 1), 3);
        Check.due("ba is not ab", Check.label(net, "ba", 1), 4);
        net.merges(0, 1);
        Check.due("those of a merger are told", Check.term(net, "ba"), -100);
        net.goes(0, 0);
        Check.due("those of one that went are not", Check.term(net, "ba"), 0);
    }

    /** A LABEL for each number below 40, none of one letter. */
    private static String name(int i) {
        return "" + (char) ('x' + i / 26) + (char) ('a' + i % 26);
    }

    private static void fortyLabels() {
        says(0, "40 at most of all together");
        SubjectNet net = Check.terms(24);
        for (int i = 0; i < 16; i++) {
            Check.due("label " + (24 + i), Check.label(net, name(i), 3), 2 + i);
        }
        Check.due("40 are there", net.count(3), 40);
        Check.due("the 41st", Check.label(net, "yz", 3), -200);
        Check.due("the 41st of another", Check.label(net, "yz", 23), -200);
        net.goes(9, 0);
        Check.due("there is room for a term again", Check.term(net, "yz"), 9);
        Check.due("there is room for no more", Check.label(net, "zz", 9), -200);
        net.undo();
        Check.due("undone, there is room again", Check.label(net, "zz", 0), 2);
        Check.due("40 are there once more", net.count(3), 40);
        net.merges(3, 0);
        Check.due("a merger leaves all 40", net.count(3), 40);
        Check.due("all are found", net.labels(3), 19);
        Check.due("room for a term, but not for its label", Check.term(net, "yz"), -200);
    }

    private static void items() {
        says(0, "ITEMS 0 .. 39 that are POSTED to it (a set)");
        SubjectNet net = Check.terms(24);
        for (int t = 0; t < 23; t++) {
            net.links(t, 23);
        }
        for (int item = 0; item < 40; item++) {
            Check.due("posts " + item, net.posts(item, 23), item + 1);
            Check.due("once more " + item, net.posts(item, 23), -2);
        }
        Check.due("no item 40", net.posts(40, 23), -1);
        Check.due("no item -1", net.posts(-1, 23), -1);
        Check.due("all 40 are found", Check.search(net, "x"), 40);
        for (int item = 0; item < 40; item++) {
            Check.due("the row", net.row(item), item);
        }
        net.posts(39, 0);
        Check.due("it goes to its 23 heirs", net.goes(23, 1), 23);
        Check.due("all postings that there can be", net.count(4), 23 * 40);
        Check.due("the last item is posted to all", net.posted(39), ALL >> 1);
        Check.due("the first item is posted to all", net.posted(0), ALL >> 1);
    }

    private static void unlikeOnes() {
        says(0, "A LINK from x to y (unlike ones)");
        SubjectNet net = Check.terms(3);
        for (int t = 0; t < 3; t++) {
            Check.due("links of one", net.links(t, t), -1);
            Check.due("would of one", net.would(t, t), -1);
        }
        Check.due("net of one", Check.net(net, "b>b"), 0);
        Check.due("day of one", Check.day(net, "l0101"), 0);
        Check.due("no link came", net.count(2), 0);
        net.links(0, 1);
        net.links(1, 2);
        net.merges(1, 0);
        Check.due("a merger makes none", net.kin(1, 0), 4);
        net.merges(1, 2);
        Check.due("nor does the other one", net.count(2), 0);
        Check.due("below is the term alone", net.kin(1, 2), 2);
    }

    private static void first() {
        says(0, "FIRST: of the fewest TERMS; of several by TERMS, one behind another, "
            + "at the first unlike place the lesser.");
        SubjectNet net = Check.terms(16);
        Check.net(net, "a>b,b>c,c>p,a>o,o>p");
        Check.due("the fewest ahead of the least", net.way(0, 15), 3);
        Check.dueRow("the fewest ahead of the least", net, 0, 14, 15);
        Check.net(net, "a>i,i>p");
        Check.due("the lesser of two", net.way(0, 15), 3);
        Check.dueRow("the lesser of two", net, 0, 8, 15);
        SubjectNet deep = Check.terms(16);
        Check.net(deep, "a>b,b>n,n>p,a>c,c>d,d>p");
        deep.way(0, 15);
        Check.dueRow("the first unlike place decides", deep, 0, 1, 13, 15);
        Check.net(deep, "b>m,m>p");
        deep.way(0, 15);
        Check.dueRow("or the second", deep, 0, 1, 12, 15);
        SubjectNet dead = Check.terms(16);
        Check.net(dead, "a>b,b>c,c>d,a>k,k>l,l>p,d>p");
        dead.way(0, 15);
        Check.dueRow("not by the least that leads on too far", dead, 0, 10, 11, 15);
    }

    private static void belowAndAbove() {
        says(0, "Below x: TERMS to which there is a WAY from x, and x; "
            + "above x: those from which there is one to x, and x.");
        SubjectNet lone = Check.terms(1);
        Check.due("one alone, below", lone.kin(0, 2), 1);
        Check.due("one alone, above", lone.kin(0, 3), 1);
        SubjectNet line = Nets.line();
        for (int t = 0; t < 24; t++) {
            Check.due("below " + t, line.kin(t, 2), ALL >> t << t);
            Check.due("above " + t, line.kin(t, 3), (1 << t + 1) - 1);
        }
        SubjectNet back = Nets.full();
        Check.due("all below 23", back.kin(23, 2), ALL);
        Check.due("all above 0", back.kin(0, 3), ALL);
        Check.due("0 alone below 0", back.kin(0, 2), 1);
        Check.due("23 alone above 23", back.kin(23, 3), 1 << 23);
    }

    private static void behindAll() {
        says(0, "ORDER: all TERMS, at places 0, 1, ..; a new one comes behind all.");
        SubjectNet net = new SubjectNet();
        Check.dueOrder("none", net);
        Check.term(net, "a");
        Check.dueOrder("one", net, 0);
        Check.term(net, "b");
        Check.term(net, "c");
        net.links(2, 0);
        Check.dueOrder("mended", net, 2, 1, 0);
        Check.term(net, "d");
        Check.dueOrder("behind a mended one", net, 2, 1, 0, 3);
        net.goes(2, 0);
        Check.dueOrder("the first went", net, 1, 0, 3);
        net.goes(0, 0);
        Check.dueOrder("one between went", net, 1, 3);
        Check.term(net, "e");
        Check.dueOrder("the least number, behind all", net, 1, 3, 0);
        net.goes(0, 0);
        Check.dueOrder("the last went", net, 1, 3);
        net.goes(1, 0);
        net.goes(3, 0);
        Check.dueOrder("all went", net);
    }

    private static void rings() {
        says(0, "if y is above x, there is a RING, and it can't.");
        SubjectNet net = Nets.line();
        Check.due("the shortest", net.links(1, 0), -4);
        Check.due("the longest", net.links(23, 0), -4);
        Check.due("in between", net.links(20, 3), -4);
        Check.due("no link came", net.count(2), 23);
        for (int t = 0; t < 24; t++) {
            Check.due("order stays", Check.placed(net, t), t);
        }
        net.unlinks(11, 12);
        Check.due("without a way there is none", net.links(23, 0), 24);
        Check.due("but there is the other one then", net.links(11, 12), -4);
        Check.dueRow("it goes over the new link", net,
            12, 13, 14, 15, 16, 17, 18, 19, 20, 21, 22, 23, 0, 1, 2, 3, 4, 5, 6, 7, 8, 9, 10, 11);
    }

    private static void orderStays() {
        says(0, "If x is ahead of y in ORDER, ORDER stays");
        SubjectNet net = Check.terms(5);
        Check.due("the next one", net.links(0, 1), 0);
        Check.due("the first and the last", net.links(0, 4), 0);
        Check.due("one of many", net.links(2, 3), 0);
        Check.dueOrder("stays", net, 0, 1, 2, 3, 4);
        net.links(4, 2);
        Check.dueOrder("mended", net, 0, 1, 4, 2, 3);
        Check.due("ahead by the order, not by numbers", net.links(4, 3), 0);
    }

    private static void mended() {
        says(0, "FORE: TERMS above x at the place of y or behind; HIND: TERMS below y at the place of x or ahead; "
            + "all of these get the places that they have together: FORE first, each part in the order as it was.");
        SubjectNet two = Check.terms(2);
        Check.due("the fewest: x is right behind y", two.links(1, 0), 2);
        Check.dueOrder("the fewest", two, 1, 0);
        SubjectNet ends = Check.terms(24);
        Check.due("the first and the last", ends.links(23, 0), 2);
        Check.due("they change places, 0", Check.placeOf(ends, 0), 23);
        Check.due("they change places, 23", Check.placeOf(ends, 23), 0);
        Check.due("others stay", Check.placeOf(ends, 11), 11);
        SubjectNet most = Nets.line();
        most.unlinks(11, 12);
        Check.due("the most: all", most.links(23, 0), 24);
        for (int p = 0; p < 24; p++) {
            Check.due("the most: place " + p, Check.placed(most, p), (p + 12) % 24);
        }
        SubjectNet parts = Check.terms(9);
        Check.net(parts, "a>e,e>h,b>c,c>f,f>i");
        Check.due("a stays ahead of y, i behind x", parts.links(7, 1), 5);
        Check.dueOrder("fore e, h, then hind b, c, f; d and g stay", parts, 0, 4, 7, 3, 1, 2, 6, 5, 8);
        SubjectNet asItWas = Check.terms(6);
        asItWas.links(3, 2);
        asItWas.links(1, 0);
        Check.dueOrder("ahead", asItWas, 1, 0, 3, 2, 4, 5);
        Check.net(asItWas, "d>f,c>f");
        Check.due("each part as it was", asItWas.links(5, 1), 5);
        Check.dueOrder("not by numbers: d, c, f, then b, a", asItWas, 3, 2, 5, 1, 4, 0);
    }

    // ---- Terms, 2.

    private static void theRow() {
        says(0, "ROW: numbers told last by a call that says so.");
        SubjectNet net = Check.terms(3);
        Check.dueRow("none told yet", net);
        net.would(2, 0);
        Check.dueRow("told", net, 2, 1, 0);
        net.needless();
        Check.dueRow("no numbers were told", net);
        net.tops();
        net.links(0, 1);
        net.place(0);
        net.steps(0, 1);
        Check.dueRow("calls that don't say so", net, 7, 7);
    }

    private static void bits() {
        says(0, "Sets are bits (TERM 0, ITEM 0 is 1).");
        SubjectNet net = Check.terms(24);
        Check.due("term 0", net.kin(0, 2), 1);
        Check.due("term 23", net.kin(23, 2), 1 << 23);
        net.posts(0, 23);
        Check.due("the term of item 0", net.posted(0), 1 << 23);
        net.posts(39, 0);
        Check.due("the term of item 39", net.posted(39), 1);
        Check.due("all 24", net.tops(), ALL);
    }

    /** Refused does this for every call; here once for each kind. */
    private static void refusedCalls() {
        says(0, "Refused calls answer NONE, or false, and change nothing but THE TEXT, "
            + "which a call that reads it empties.");
        Same.nothing("a change", Nets::few, net -> net.links(0, 24), SubjectNet.NONE);
        Same.nothing("a question", Nets::few, net -> net.kin(24, 0), SubjectNet.NONE);
        Same.nothing("keep", Nets::few, net -> net.keep(2) ? 1 : 0, 0);
        Same.nothing("again", Nets::few, net -> net.again(2) ? 1 : 0, 0);
        Same.emptied("a text", Nets::few, net -> Check.term(net, ""), -1);
        Same.emptied("a text that tells nothing new", Nets::few, net -> Check.term(net, "a"), -100);
        Same.emptied("a text for no term", Nets::few, net -> Check.label(net, "y", 24), -300);
        says(0, "Questions change nothing.");
        Same.question("would", Nets::few, net -> net.would(6, 5));
        Same.question("years", Nets::few, net -> net.years(3, 60));
        Same.question("needless", Nets::few, SubjectNet::needless);
        Same.textQuestion("search", Nets::few, net -> Check.search(net, "a*"));
        Same.textQuestion("named", Nets::few, net -> Check.named(net, "a"));
    }

    private static void noneComesFirst() {
        says(0, "NONE comes ahead of other answers below 0");
        SubjectNet net = Nets.few();
        Check.due("unlinks of one, between which there is no link", net.unlinks(0, 0), -1);
        Check.due("way of one, to which there is none", net.way(6, 6), -1);
        Check.due("ways of one", net.ways(6, 6), -1);
        Check.due("between of one", net.between(6, 6), -1);
        Check.due("way to none", net.way(6, 2), -1);
        Check.due("ways to none", net.ways(6, 2), -1);
        Check.due("between one and none", net.between(6, 2), -1);
        Check.due("steps to none", net.steps(6, 2), -1);
        Check.due("unlinks to none", net.unlinks(6, 2), -1);
        Check.due("unposts, no such item", net.unposts(40, 0), -1);
        Check.due("unposts, no such term", net.unposts(0, 2), -1);
        Check.due("merges of one", net.merges(0, 0), -1);
    }

    private static void theRowStays() {
        says(0, "the ROW stays with each answer below 0 but where it is said.");
        SubjectNet net = Nets.few();
        Check.due("-1", net.labels(24), -1);
        Check.due("-2", net.links(0, 1), -2);
        Check.due("-1 - p", Check.net(net, "a>b,"), -5);
        Check.due("-100", Check.term(net, "a"), -100);
        Check.due("-300", Check.label(net, "y", 24), -300);
        Check.dueRow("stays", net, 5, 0, 4);
        Check.due("-4", net.links(3, 1), -4);
        Check.dueRow("where it is said", net, 1, 3);
        SubjectNet full = Nets.full();
        full.tops();
        Check.due("-200", Check.term(full, "yy"), -200);
        Check.dueRow("stays with -200", full, 1, 0);
    }

    // ---- promises

    private static void p1() {
        says(1, "No TERMS.");
        SubjectNet net = new SubjectNet();
        for (int what = 0; what < 8; what++) {
            Check.due("count(" + what + ")", net.count(what), 0);
        }
        Check.dueOrder("no order", net);
        Check.dueRow("no row", net);
        Check.due("tops", net.tops(), 0);
        Check.dueRow("tops", net, 0, 0);
        Check.due("needless", net.needless(), 0);
        Check.dueRow("needless", net);
        Check.due("chains", net.chains(), 0);
        Check.dueRow("chains", net, 0);
        Check.due("apart", net.apart(0), 1);
        Check.dueRow("apart", net, 0);
        Check.due("posted", net.posted(0), 0);
        Check.dueRow("posted", net, 0);
        Check.due("years", net.years(1, 60), 0);
        Check.dueRow("years", net, 0, 0);
        Check.due("day", net.day(), 0);
        Check.dueRow("day", net, 0, 0);
        Check.due("net", net.net(), 0);
        Check.dueRow("net", net, 0);
        Check.due("search", net.search(), -1);
        Check.due("named", net.named(), -1);
        Check.due("thins", net.thins(), -2);
        Check.due("undo", net.undo(), -1);
        Check.due("again", net.again(0), false);
        Check.due("an empty net can be kept", net.keep(0), true);
        Check.due("a term", Check.term(net, "a"), 0);
        Check.due("as it was kept", net.again(0), true);
        Check.due("no term is there again", net.count(0), 0);
    }

    private static void p2() {
        says(2, "Four signs come behind THE TEXT, of v the highest byte first: how many it has.");
        SubjectNet net = new SubjectNet();
        Check.due("the first four", net.sign(0x71777172), 4);
        net.end(2);
        Check.due("a term", net.term(), 0);
        net.labels(0);
        Check.dueRow("the highest two", net, 17 * 32 + 23);
        net.sign(0x77000000);
        net.end(1);
        Check.due("behind it", net.sign(0x78000000), 5);
        net.end(2);
        net.label(0);
        net.labels(0);
        Check.dueRow("one behind the other", net, 17 * 32 + 23, 23 * 32 + 24);
        Check.due("a number below 0", net.sign(-1), 4);
        Check.due("its signs are no letters", net.term(), -1);
        says(2, "Refused: there would be more than 80.");
        for (int size = 0; size <= 80; size++) {
            SubjectNet some = new SubjectNet();
            Check.text(some, "m".repeat(size));
            boolean room = size + 4 <= 80;
            Check.due("behind " + size, some.sign(0x6e6e6e6e), room ? size + 4 : -1);
            Check.due("behind " + size + ": how many", some.count(7), room ? size + 4 : size);
            Check.due("refused once more", some.sign(0) < 0, size + 8 > 80);
        }
        SubjectNet full = new SubjectNet();
        Check.text(full, "mn" + "o".repeat(78));
        full.sign(0x7a7a7a7a);
        full.end(2);
        Check.due("refused signs are not in the text", full.term(), 0);
        full.labels(0);
        Check.dueRow("refused signs are not in the text", full, 13 * 32 + 14);
    }

    private static void p3() {
        says(3, "THE TEXT has its first n signs alone: true; false if it has not so many, or n is below 0.");
        for (int size : new int[] {0, 1, 4, 79, 80}) {
            for (int n : new int[] {0, 1, 2, size - 1, size, size + 1, 80, 81, -1, MIN, MAX}) {
                SubjectNet net = new SubjectNet();
                Check.text(net, "m".repeat(size));
                boolean can = n >= 0 && n <= size;
                Check.due("end(" + n + ") of " + size, net.end(n), can);
                Check.due("end(" + n + ") of " + size + ": how many", net.count(7), can ? n : size);
            }
        }
        SubjectNet net = new SubjectNet();
        Check.text(net, "abcd");
        net.end(1);
        Check.due("what was cut off is not there", net.end(2), false);
        Check.due("the first ones stay", net.term(), 0);
        net.labels(0);
        Check.dueRow("the first ones stay", net, 32);
    }

    private static void p4() {
        says(4, "-1 - p: the sign at p can't stand there (its end, if it ends too early)");
        SubjectNet net = Check.terms(1);
        Check.due("it ends at once", Check.term(net, ""), -1);
        Check.due("the first", Check.term(net, "0"), -1);
        Check.due("the first of two wrong ones", Check.term(net, "01"), -1);
        Check.due("the second", Check.term(net, "b0"), -2);
        Check.due("the third", Check.term(net, "bcd"), -3);
        Check.due("the third of 80", Check.term(net, "b".repeat(80)), -3);
        Check.due("no term came", net.count(0), 1);
        Check.due("nothing more to undo", net.count(5), 1);
        says(4, "-100: the LABEL is told already");
        Check.due("told", Check.term(net, "a"), -100);
        Check.label(net, "ab", 0);
        Check.due("told as a second one", Check.term(net, "ab"), -100);
        Check.due("the text is emptied", net.count(7), 0);
        says(4, "-200: there are 24 TERMS, or 40 LABELS (in this order).");
        SubjectNet terms = Check.terms(23);
        Check.due("the 24th", Check.term(terms, "ya"), 23);
        Check.due("24 terms", Check.term(terms, "yb"), -200);
        Check.due("24 terms, but told already", Check.term(terms, "ya"), -100);
        Check.due("24 terms, but a wrong sign", Check.term(terms, "yab"), -3);
        Check.due("the text is emptied", terms.count(7), 0);
        SubjectNet labels = Check.terms(1);
        for (int i = 0; i < 38; i++) {
            Check.label(labels, name(i), 0);
        }
        Check.due("the 40th label", Check.term(labels, "b"), 1);
        Check.due("40 labels", Check.term(labels, "c"), -200);
        Check.due("40 labels, but told already", Check.term(labels, "b"), -100);
        Check.due("40 labels, but a wrong sign", Check.term(labels, ""), -1);
        Check.due("two terms", labels.count(0), 2);
    }

    private static void p5() {
        says(5, "-1 - p, -100: as term()");
        SubjectNet net = Check.terms(2);
        Check.due("it ends at once", Check.label(net, "", 1), -1);
        Check.due("the first", Check.label(net, "{", 1), -1);
        Check.due("the second", Check.label(net, "c`", 1), -2);
        Check.due("the third", Check.label(net, "cde", 1), -3);
        Check.due("the third, ahead of told", Check.label(net, "a".repeat(80), 1), -3);
        Check.due("told, another's", Check.label(net, "a", 1), -100);
        Check.due("told, its own", Check.label(net, "b", 1), -100);
        Check.due("the text is emptied", net.count(7), 0);
        Check.due("no label came", net.count(3), 2);
        says(5, "-200: there are 40 LABELS");
        for (int i = 0; i < 38; i++) {
            Check.due("label " + i, Check.label(net, name(i), 1), i + 2);
        }
        Check.due("40 labels", Check.label(net, "c", 1), -200);
        Check.due("40 labels, of another", Check.label(net, "c", 0), -200);
        Check.due("40 labels, but told already", Check.label(net, "a", 1), -100);
        Check.due("40 labels, but a wrong sign", Check.label(net, "c1", 1), -2);
        SubjectNet terms = Check.terms(24);
        Check.due("24 terms don't matter", Check.label(terms, "y", 23), 2);
        says(5, "-300: there is no such TERM (asked first; THE TEXT is emptied).");
        for (int t : new int[] {2, 23, 24, 32, 33, -1, MIN, MAX}) {
            Check.due("label(" + t + ")", Check.label(net, "c", t), -300);
            Check.due("emptied", net.count(7), 0);
            Check.due("ahead of a wrong sign", Check.label(net, "1", t), -300);
            Check.due("ahead of the end", Check.label(net, "", t), -300);
            Check.due("ahead of told", Check.label(net, "a", t), -300);
            Check.due("emptied again", net.count(7), 0);
        }
    }

    private static void p6() {
        says(6, "-1 - p: as term()");
        SubjectNet net = Check.terms(24);
        Check.due("it ends at once", Check.named(net, ""), -1);
        Check.due("the first", Check.named(net, "*"), -1);
        Check.due("the second", Check.named(net, "a*"), -2);
        Check.due("the third", Check.named(net, "abc"), -3);
        Check.due("the third, if none has it", Check.named(net, "yy1"), -3);
        Check.due("emptied", net.count(7), 0);
        says(6, "-100: none has.");
        Check.due("none has", Check.named(net, "z"), -100);
        Check.due("none has, of two letters one has", Check.named(net, "aa"), -100);
        Check.due("emptied", net.count(7), 0);
        Check.due("the first", Check.named(net, "a"), 0);
        Check.due("the last", Check.named(net, "x"), 23);
        net.goes(23, 0);
        Check.due("none has any more", Check.named(net, "x"), -100);
        Check.due("on a new object", Check.named(new SubjectNet(), "a"), -100);
    }

    private static void p7() {
        says(7, "in the order in which it got them (in a merger those of the one that goes come behind)");
        SubjectNet net = Check.terms(3);
        Check.label(net, "zz", 1);
        Check.label(net, "aa", 0);
        Check.label(net, "m", 1);
        net.merges(0, 1);
        net.labels(0);
        Check.dueRow("behind its own", net, 32, 33, 64, 26 * 33, 13 * 32);
        net.merges(2, 0);
        net.labels(2);
        Check.dueRow("behind its own once more", net, 96, 32, 33, 64, 26 * 33, 13 * 32);
        SubjectNet most = Check.terms(2);
        for (int i = 0; i < 38; i++) {
            Check.label(most, name(i), i % 2);
        }
        most.merges(1, 0);
        Check.due("all 40 of one", most.labels(1), 40);
        Check.due("its own first", most.row(0), 64);
        Check.due("then the other's", most.row(20), 32);
        says(7, "the first one times 32 and the second one (0 without)");
        SubjectNet few = new SubjectNet();
        for (String name : new String[] {"a", "z", "aa", "az", "za", "zz"}) {
            Check.term(few, name);
        }
        few.merges(0, 1);
        few.merges(0, 2);
        few.merges(0, 3);
        few.merges(0, 4);
        few.merges(0, 5);
        Check.due("six", few.labels(0), 6);
        Check.dueRow("the least and the greatest letters", few, 32, 832, 33, 58, 833, 858);
        says(7, "NONE: no such TERM.");
        for (int t : new int[] {1, 5, 6, 24, 32, -1, MIN, MAX}) {
            Check.due("labels(" + t + ")", few.labels(t), -1);
        }
        Check.dueRow("the row stays", few, 32, 832, 33, 58, 833, 858);
    }

    private static void p8() {
        says(8, "how many TERMS have another place in ORDER than before");
        SubjectNet net = Check.terms(4);
        Check.due("none", net.links(0, 3), 0);
        Check.due("two", net.links(2, 1), 2);
        Check.due("of three", net.links(3, 2), 3);
        Check.dueOrder("then", net, 0, 3, 2, 1);
        says(8, "-2: it is there");
        Check.due("there", net.links(3, 2), -2);
        Check.due("a way is no link", net.links(3, 1), 0);
        Check.due("there now", net.links(3, 1), -2);
        Check.due("links", net.count(2), 4);
        says(8, "-4: a RING (the ROW: TERMS of the FIRST WAY from y to x)");
        Check.due("of two", net.links(1, 3), -4);
        Check.dueRow("of two: the straight link is first", net, 3, 1);
        Check.due("of four", net.links(1, 0), -4);
        Check.dueRow("the fewest", net, 0, 3, 1);
        Check.due("links stay", net.count(2), 4);
        Check.dueOrder("order stays", net, 0, 3, 2, 1);
        SubjectNet line = Nets.line();
        Check.due("of all", line.links(23, 0), -4);
        Check.due("of all: the row", line.count(6), 24);
        Check.due("of all: from y", line.row(0), 0);
        Check.due("of all: to x", line.row(23), 23);
        says(8, "NONE: no such TERMS, both are one.");
        line.tops();
        for (int t : new int[] {24, 32, -1, MIN, MAX}) {
            Check.due("links(" + t + ", 0)", line.links(t, 0), -1);
            Check.due("links(0, " + t + ")", line.links(0, t), -1);
            Check.due("links(" + t + ", " + t + ")", line.links(t, t), -1);
        }
        Check.due("links(0, 0)", line.links(0, 0), -1);
        Check.due("links(23, 23)", line.links(23, 23), -1);
        Check.dueRow("the row stays", line, 1 << 23, 0);
    }

    private static void p9() {
        says(9, "A LINK goes (ORDER stays): how many LINKS are left.");
        SubjectNet net = Check.terms(3);
        net.links(2, 0);
        net.links(2, 1);
        Check.due("one is left", net.unlinks(2, 0), 1);
        Check.due("none is left", net.unlinks(2, 1), 0);
        Check.dueOrder("order stays", net, 2, 1, 0);
        Check.due("it can be the other way round now", net.links(0, 2), 2);
        SubjectNet dense = Nets.dense();
        Check.due("of most", dense.unlinks(0, 23), 275);
        says(9, "-2: there is none");
        Check.due("none any more", dense.unlinks(0, 23), -2);
        Check.due("the other way round", dense.unlinks(23, 22), -2);
        Check.due("never", net.unlinks(1, 0), -2);
        Check.due("a way is no link", Nets.few().unlinks(5, 1), -2);
        says(9, "NONE: no such TERMS, both are one.");
        for (int t : new int[] {3, 23, 24, 32, -1, MIN, MAX}) {
            Check.due("unlinks(" + t + ", 0)", net.unlinks(t, 0), -1);
            Check.due("unlinks(0, " + t + ")", net.unlinks(0, t), -1);
            Check.due("unlinks(" + t + ", " + t + ")", net.unlinks(t, t), -1);
        }
        Check.due("unlinks(0, 0)", net.unlinks(0, 0), -1);
        Check.due("links stay", net.count(2), 1);
    }

    private static void p10() {
        says(10, "two LABELS with > between (from, to), any many, with , between");
        SubjectNet net = Check.terms(21);
        Check.due("none", Check.net(net, ""), 0);
        Check.dueRow("none", net, 0);
        Check.due("one", Check.net(net, "b>a"), 1);
        Check.dueRow("one", net, 0);
        Check.due("as many as 80 signs hold", Check.net(net, "c>a,d>a,e>a,f>a,g>a,h>a,i>a,j>a,k>a,l>a,"
            + "m>a,n>a,o>a,p>a,q>a,r>a,s>a,t>a,u>a,b>a"), 20);
        Check.due("all links", net.count(2), 20);
        says(10, "those that are there already being passed by");
        SubjectNet few = Check.terms(4);
        Check.net(few, "a>b");
        Check.due("passed by alone", Check.net(few, "a>b"), 1);
        Check.due("passed by twice", Check.net(few, "a>b,a>b"), 2);
        Check.dueRow("passed by", few, 0);
        Check.due("nothing more to undo", few.count(5), 5);
        Check.due("told twice in one text", Check.net(few, "b>c,b>c"), 2);
        Check.due("one came", few.count(2), 2);
        says(10, "till one would close a RING, or is from a TERM to itself: how many did (also those passed by); "
            + "the ROW: 1 if one could not, else 0.");
        Check.due("the first", Check.net(few, "b>a,a>d"), 0);
        Check.dueRow("the first", few, 1);
        Check.due("the last", Check.net(few, "a>b,a>d,d>a"), 2);
        Check.dueRow("the last", few, 1);
        Check.due("those behind did not", Check.net(few, "a>b,c>a,b>d"), 1);
        Check.due("links", few.count(2), 3);
        Check.due("to itself at first", Check.net(few, "d>d,b>d"), 0);
        Check.dueRow("to itself at first", few, 1);
        Check.label(few, "dd", 3);
        Check.due("to itself by another label", Check.net(few, "a>b,dd>d,b>d"), 1);
        Check.dueRow("to itself by another label", few, 1);
        Check.due("a ring closed by the same text", Check.net(few, "c>d,d>c"), 1);
        Check.dueRow("a ring closed by the same text", few, 1);
        Check.due("links then", few.count(2), 4);
    }

    private static void p10WrongSigns() {
        says(10, "-1 - p: the sign at p can't stand there (of a LABEL that none has: its first sign; "
            + "its end, if it ends too early); nothing is done then.");
        String[] texts = {"a", "a>", "a>b,", "a>b,c", "a>b,c>", "ab", "bb>", ",", "a,b", "a>,", "a>>b", "a>b,,c>a",
            "a>b>c", "a>bb,", "a>bbb", "a>b ", " a>b", "a>z", "z>a", "a>b,z>a", "a>b,a>z", "a>b\u0000", "a>\u00e2",
            "a*>b", "bbb>a", "aa>b", "a>b.b>c", "A>b"};
        int[] signs = {1, 2, 4, 5, 6, 0, 3, 0, 1, 2, 2, 4,
            3, 5, 4, 3, 0, 2, 0, 4, 6, 3, 2,
            1, 2, 0, 3, 0};
        for (int i = 0; i < texts.length; i++) {
            SubjectNet net = Check.terms(3);
            Check.label(net, "bb", 1);
            net.tops();
            Check.due(texts[i], Check.net(net, texts[i]), -1 - signs[i]);
            Check.due(texts[i] + ": emptied", net.count(7), 0);
            Check.due(texts[i] + ": no links", net.count(2), 0);
            Check.due(texts[i] + ": nothing to undo", net.count(5), 4);
            Check.dueRow(texts[i] + ": the row", net, 7, 7);
        }
        SubjectNet net = Check.terms(2);
        Check.due("80 signs end too early", Check.net(net, "a>b,".repeat(20)), -81);
        Check.due("80 signs, the last one", Check.net(net, "a>b,".repeat(19) + "a>b>"), -80);
        Check.due("80 signs, a ring ahead of the wrong sign", Check.net(net, "a>b,b>a," + "a>b,".repeat(18)), -81);
        Check.due("no links", net.count(2), 0);
        Check.due("on a new object", Check.net(new SubjectNet(), "a>b"), -1);
    }

    private static void p11() {
        says(11, "NoSuchElementException: no such TERM.");
        SubjectNet net = Check.terms(24);
        net.links(23, 0);
        Check.due("the first place", Check.placeOf(net, 23), 0);
        Check.due("the last place", Check.placeOf(net, 0), 23);
        for (int t : new int[] {24, 25, 32, 47, -1, -24, MIN, MAX}) {
            Check.due("place(" + t + ")", Check.placeOf(net, t), THROWN);
        }
        net.goes(5, 0);
        Check.due("gone", Check.placeOf(net, 5), THROWN);
        Check.due("its neighbour's place", Check.placeOf(net, 6), 5);
        net.merges(7, 6);
        Check.due("gone into another", Check.placeOf(net, 6), THROWN);
        Check.due("none at all", Check.placeOf(new SubjectNet(), 0), THROWN);
    }

    private static void p12() {
        says(12, "NoSuchElementException: none such.");
        SubjectNet net = Check.terms(24);
        net.links(23, 0);
        Check.due("the first", Check.placed(net, 0), 23);
        Check.due("the last", Check.placed(net, 23), 0);
        for (int p : new int[] {24, 25, 32, 47, -1, -24, MIN, MAX}) {
            Check.due("at(" + p + ")", Check.placed(net, p), THROWN);
        }
        net.goes(5, 0);
        Check.due("the last went", Check.placed(net, 23), THROWN);
        Check.due("the last but one", Check.placed(net, 22), 0);
        net.undo();
        Check.due("the last is there again", Check.placed(net, 23), 0);
        Check.due("none at all", Check.placed(new SubjectNet(), 0), THROWN);
    }

    private static void p13() {
        says(13, "ORDER, were a LINK from x to y to come: as links(); the ROW: TERMS by places.");
        SubjectNet two = Check.terms(2);
        Check.due("stays", two.would(0, 1), 0);
        Check.dueRow("stays", two, 0, 1);
        Check.due("mended", two.would(1, 0), 2);
        Check.dueRow("mended", two, 1, 0);
        Check.dueOrder("it did not come", two, 0, 1);
        SubjectNet line = Nets.line();
        line.unlinks(11, 12);
        Check.due("all would move", line.would(23, 0), 24);
        Check.due("all are told", line.count(6), 24);
        Check.due("the first", line.row(0), 12);
        Check.due("the last", line.row(23), 11);
        Check.due("no link came", line.count(2), 22);
        says(13, "-2, -4, NONE: as links().");
        Check.due("there", line.would(0, 1), -2);
        Check.due("the row stays", line.row(23), 11);
        Check.due("there once more", line.would(22, 23), -2);
        Check.due("a ring", line.would(11, 0), -4);
        Check.dueRow("a ring", line, 0, 1, 2, 3, 4, 5, 6, 7, 8, 9, 10, 11);
        Check.due("the shortest ring", line.would(1, 0), -4);
        Check.dueRow("the shortest ring", line, 0, 1);
        for (int t : new int[] {24, 32, -1, MIN, MAX}) {
            Check.due("would(" + t + ", 0)", line.would(t, 0), -1);
            Check.due("would(0, " + t + ")", line.would(0, t), -1);
        }
        Check.due("both are one", line.would(7, 7), -1);
        Check.dueRow("the row stays with NONE", line, 0, 1);
    }
}
