import java.io.IOException;
import java.nio.file.Path;

/** The boundary cases of promises 25 to 38, sentence by sentence; arguments: the source, the document. */
public final class EdgesOfChanges {
    private static final int MIN = Integer.MIN_VALUE;
    private static final int MAX = Integer.MAX_VALUE;
    private static final int ALL = (1 << 24) - 1;
    private static final int[] NO_TERMS = {24, 25, 31, 32, 55, 64, -1, -24, MIN, MAX};
    private static final int[] NO_ITEMS = {40, 41, 63, 64, 103, -1, -40, MIN, MAX};

    private EdgesOfChanges() {
    }

    public static void main(String[] args) throws IOException {
        p25();
        p26();
        p27();
        p27WrongSigns();
        p28();
        p29();
        p29Heirs();
        p30();
        p30Mergers();
        p31();
        p32();
        p32EachAct();
        p32WrongSigns();
        p33();
        p33SuchAsWereDone();
        p34();
        p34Draws();
        p35();
        p36();
        p37();
        p38();
        Document.check(Path.of(args[1]), 25, 38);
        Check.finish("EdgesOfChanges");
    }

    private static void says(int section, String words) {
        Document.says(section, words);
    }

    /** a > b > c; d apart; e has gone; ITEMS 0 and 39 at b; the ROW is 0, 1, 2. */
    private static SubjectNet three() {
        SubjectNet net = Check.terms(5);
        Check.net(net, "a>b,b>c");
        net.goes(4, 0);
        net.posts(0, 1);
        net.posts(39, 1);
        net.way(0, 2);
        return net;
    }

    // ---- items

    private static void p25() {
        says(25, "An ITEM is POSTED to a TERM: how many it has.");
        SubjectNet net = Check.terms(24);
        Check.due("the first item, the last term", net.posts(0, 23), 1);
        Check.due("the last item, the last term", net.posts(39, 23), 2);
        Check.due("the last item, the first term", net.posts(39, 0), 1);
        for (int item = 1; item < 39; item++) {
            Check.due("item " + item, net.posts(item, 23), item + 2);
        }
        Check.due("all of one", net.count(4), 41);
        says(25, "-2: it is");
        Check.due("the first", net.posts(0, 23), -2);
        Check.due("the last", net.posts(39, 23), -2);
        Check.due("at another it is not", net.posts(0, 0), 2);
        net.unposts(0, 0);
        Check.due("it is not any more", net.posts(0, 0), 2);
        Check.due("it is again", net.posts(0, 0), -2);
        says(25, "NONE: no such TERM, ITEM.");
        SubjectNet few = three();
        int undo = few.count(5);
        for (int item : NO_ITEMS) {
            Check.due("posts(" + item + ", 0)", few.posts(item, 0), -1);
            Check.due("posts(" + item + ", 24)", few.posts(item, 24), -1);
        }
        for (int t : NO_TERMS) {
            Check.due("posts(0, " + t + ")", few.posts(0, t), -1);
        }
        Check.due("gone", few.posts(0, 4), -1);
        Check.due("postings", few.count(4), 2);
        Check.due("nothing more to undo", few.count(5), undo);
        Check.dueRow("the row stays", few, 0, 1, 2);
    }

    private static void p26() {
        says(26, "An ITEM is taken off a TERM: how many are left.");
        SubjectNet net = three();
        Check.due("one is left", net.unposts(0, 1), 1);
        Check.due("none is left", net.unposts(39, 1), 0);
        says(26, "-2: it is not POSTED there");
        Check.due("not any more", net.unposts(39, 1), -2);
        Check.due("never", net.unposts(5, 1), -2);
        SubjectNet few = three();
        Check.due("at another one only", few.unposts(0, 0), -2);
        Check.due("at one below only", few.unposts(39, 0), -2);
        Check.due("postings", few.count(4), 2);
        says(26, "NONE: no such TERM, ITEM.");
        int undo = few.count(5);
        for (int item : NO_ITEMS) {
            Check.due("unposts(" + item + ", 1)", few.unposts(item, 1), -1);
            Check.due("unposts(" + item + ", 24)", few.unposts(item, 24), -1);
        }
        for (int t : NO_TERMS) {
            Check.due("unposts(0, " + t + ")", few.unposts(0, t), -1);
        }
        Check.due("gone", few.unposts(0, 4), -1);
        Check.due("postings", few.count(4), 2);
        Check.due("nothing more to undo", few.count(5), undo);
        Check.dueRow("the row stays", few, 0, 1, 2);
    }

    private static void p27() {
        says(27, "a LABEL, perhaps with * behind it, then any many times +, & or - and such a LABEL");
        SubjectNet net = three();
        Check.due("none: it is empty", Check.search(net, ""), -1);
        Check.due("one label", Check.search(net, "b"), 2);
        Check.dueRow("one label", net, 0, 39);
        Check.due("with *", Check.search(net, "a*"), 2);
        Check.due("without", Check.search(net, "a"), 0);
        Check.dueRow("nothing is found", net);
        Check.due("* of one with none below", Check.search(net, "c*"), 0);
        net.posts(7, 3);
        Check.due("80 signs", Check.search(net, "b+".repeat(39) + "d*"), 3);
        Check.dueRow("80 signs", net, 0, 7, 39);
        Check.due("as many labels as 80 signs hold", Check.search(net, "b&".repeat(39) + "b"), 2);
        Check.due("without itself", Check.search(net, "b-b"), 0);
        Check.dueRow("without itself", net);
        Check.due("with itself", Check.search(net, "b+b&b"), 2);
        says(27, "from the left: ITEMS of a TERM (with *: of all below it), and those of the next one, too (+), "
            + "those of both (&), without those of the next one (-)");
        Check.due("+ ahead of &", Check.search(net, "b+d&d"), 1);
        Check.dueRow("+ ahead of &", net, 7);
        Check.due("- ahead of +", Check.search(net, "b-b+d"), 1);
        Check.due("+ ahead of -", Check.search(net, "d+b-d"), 2);
        Check.due("all taken off", Check.search(net, "a*-b*"), 0);
        says(27, "how many; the ROW: they, rising.");
        SubjectNet all = Check.terms(2);
        for (int item = 39; item >= 0; item--) {
            all.posts(item, item % 2);
        }
        Check.due("all 40", Check.search(all, "a+b"), 40);
        for (int item = 0; item < 40; item++) {
            Check.due("all 40, rising", Check.number(all, item), item);
        }
        Check.due("none of 40", Check.search(all, "a&b"), 0);
        Check.dueRow("none of 40", all);
    }

    private static void p27WrongSigns() {
        says(27, "-1 - p: as net().");
        String[] texts = {"", "*", "+b", "b+", "b*+", "b-*", "b**", "b*b", "b+b-", "z", "b+z", "b+zz*", "bb", "b&zzz",
            "b b", "b,b", "b>b", "b+1", "b\u0000", "\u00e2", "b+b.", "b*&b*-", "B", "b/b", "b%b"};
        int[] signs = {0, 0, 0, 2, 3, 2, 2, 2, 4, 0, 2, 2, 0, 2,
            1, 1, 1, 2, 1, 0, 3, 6, 0, 1, 1};
        for (int i = 0; i < texts.length; i++) {
            SubjectNet net = three();
            Check.due(texts[i], Check.search(net, texts[i]), -1 - signs[i]);
            Check.due(texts[i] + ": emptied", net.count(7), 0);
            Check.dueRow(texts[i] + ": the row", net, 0, 1, 2);
        }
        SubjectNet net = three();
        Check.due("80 signs end too early", Check.search(net, "b+".repeat(40)), -81);
        Check.due("the last of 80", Check.search(net, "b+".repeat(39) + "b>"), -80);
        Check.due("a label of one that has gone", Check.search(net, "b+e"), -3);
        Check.due("on a new object", Check.search(new SubjectNet(), "a"), -1);
    }

    private static void p28() {
        says(28, "TERMS to which an ITEM is POSTED: bits; the ROW: those of them that have another one of them "
            + "below (bits).");
        SubjectNet net = three();
        Check.due("to none", net.posted(20), 0);
        Check.dueRow("to none", net, 0);
        Check.due("to one", net.posted(39), 2);
        Check.dueRow("to one: itself is not another", net, 0);
        net.posts(39, 3);
        Check.due("to two apart", net.posted(39), 10);
        Check.dueRow("to two apart", net, 0);
        SubjectNet line = Nets.line();
        for (int t = 0; t < 24; t++) {
            line.posts(0, t);
        }
        Check.due("to all", line.posted(0), ALL);
        Check.dueRow("to all: all but the last", line, ALL >> 1);
        SubjectNet far = Nets.line();
        far.posts(39, 0);
        far.posts(39, 23);
        Check.due("far below", far.posted(39), 1 | 1 << 23);
        Check.dueRow("far below", far, 1);
        says(28, "NONE: no such ITEM.");
        for (int item : NO_ITEMS) {
            Check.due("posted(" + item + ")", far.posted(item), -1);
        }
        Check.dueRow("the row stays", far, 1);
    }

    // ---- changes

    private static void p29() {
        says(29, "A TERM goes, with its LABELS, ITEMS, LINKS.");
        SubjectNet net = three();
        Check.label(net, "bb", 1);
        Check.due("three are left", net.goes(1, 0), 3);
        Check.due("labels", net.count(3), 3);
        Check.due("a label", Check.named(net, "bb"), -100);
        Check.due("items", net.count(4), 0);
        Check.due("links", net.count(2), 0);
        Check.dueOrder("order", net, 0, 2, 3);
        net.goes(0, 1);
        net.goes(3, 1);
        Check.due("the last one", net.goes(2, 1), 0);
        Check.due("nothing is left", net.count(0) + net.count(1) + net.count(3), 0);
        Check.dueOrder("no order", net);
        Check.due("a new one is bare", Check.term(net, "b"), 0);
        Check.due("a new one is bare, items", net.count(4), 0);
        Check.due("of all", Check.terms(24).goes(23, 0), 23);
        says(29, "NONE: no such TERM, heirs are others.");
        SubjectNet few = three();
        int undo = few.count(5);
        for (int t : NO_TERMS) {
            Check.due("goes(" + t + ", 0)", few.goes(t, 0), -1);
            Check.due("goes(" + t + ", 1)", few.goes(t, 1), -1);
        }
        for (int heirs : new int[] {-1, 2, 3, 32, MIN, MAX}) {
            Check.due("goes(0, " + heirs + ")", few.goes(0, heirs), -1);
        }
        Check.due("gone already", few.goes(4, 0), -1);
        Check.due("gone already, with heirs", few.goes(4, 1), -1);
        Check.due("terms", few.count(0), 4);
        Check.due("nothing more to undo", few.count(5), undo);
        Check.dueRow("the row stays", few, 0, 1, 2);
    }

    private static void p29Heirs() {
        says(29, "With heirs 1: from each BROADER one, by numbers, a LINK to each NARROWER one, by numbers, COMES, "
            + "if it is not there, and ITEMS are POSTED to each BROADER one, ahead of that; with 0 not: "
            + "how many TERMS are left.");
        SubjectNet net = three();
        Check.due("heirs", net.goes(1, 1), 3);
        Check.due("the link", net.kin(0, 0), 4);
        Check.due("the items", net.posted(39), 1);
        SubjectNet top = three();
        top.posts(3, 0);
        top.goes(0, 1);
        Check.due("no broader one: items go", top.posted(3), 0);
        Check.due("no broader one: links go", top.count(2), 1);
        SubjectNet bottom = three();
        bottom.posts(3, 2);
        bottom.goes(2, 1);
        Check.due("no narrower one: items are posted", bottom.posted(3), 2);
        Check.due("no narrower one: no link comes", bottom.count(2), 1);
        SubjectNet apart = three();
        apart.posts(3, 3);
        Check.due("neither", apart.goes(3, 1), 3);
        Check.due("neither: items go", apart.posted(3), 0);
        SubjectNet there = three();
        there.links(0, 2);
        there.posts(0, 0);
        there.goes(1, 1);
        Check.due("there already", there.count(2), 1);
        Check.due("posted already", there.count(4), 2);
        SubjectNet many = Check.terms(23);
        for (int t = 0; t < 11; t++) {
            many.links(t, 11);
            many.links(11, t + 12);
        }
        many.posts(39, 11);
        Check.due("eleven above, eleven below", many.goes(11, 1), 22);
        Check.due("eleven above, eleven below: links", many.count(2), 121);
        Check.due("eleven above: items", many.posted(39), (1 << 11) - 1);
        Check.due("undone as one", many.undo(), 7);
        Check.due("undone as one: links", many.count(2), 22);
    }

    private static void p30() {
        says(30, "-4: there is a WAY from the one to the other over others (the ROW: the FIRST such one)");
        SubjectNet net = three();
        Check.due("downwards", net.merges(0, 2), -4);
        Check.dueRow("downwards", net, 0, 1, 2);
        net.tops();
        Check.due("upwards", net.merges(2, 0), -4);
        Check.dueRow("upwards: the same way", net, 0, 1, 2);
        net.links(0, 2);
        net.tops();
        Check.due("beside a link", net.merges(0, 2), -4);
        Check.dueRow("beside a link: over others", net, 0, 1, 2);
        net.links(0, 3);
        net.links(3, 2);
        Check.due("two such ways", net.merges(2, 0), -4);
        Check.dueRow("the first of two", net, 0, 1, 2);
        net.unlinks(0, 1);
        Check.due("the other one", net.merges(2, 0), -4);
        Check.dueRow("the other one", net, 0, 3, 2);
        Check.due("terms stay", net.count(0), 4);
        SubjectNet line = Nets.line();
        Check.due("over all", line.merges(23, 0), -4);
        Check.due("over all: the row", line.count(6), 24);
        Check.due("over all: the last", Check.number(line, 23), 23);
        Check.due("a straight link alone", line.merges(22, 23), 23);
        says(30, "NONE: no such TERMS, both are one.");
        SubjectNet few = three();
        int undo = few.count(5);
        for (int t : NO_TERMS) {
            Check.due("merges(" + t + ", 0)", few.merges(t, 0), -1);
            Check.due("merges(0, " + t + ")", few.merges(0, t), -1);
            Check.due("merges(" + t + ", " + t + ")", few.merges(t, t), -1);
        }
        for (int t = 0; t < 5; t++) {
            Check.due("both are one, " + t, few.merges(t, t), -1);
        }
        Check.due("gone", few.merges(0, 4), -1);
        Check.due("into one that has gone", few.merges(4, 0), -1);
        Check.due("terms", few.count(0), 4);
        Check.due("nothing more to undo", few.count(5), undo);
        Check.dueRow("the row stays", few, 0, 1, 2);
    }

    private static void p30Mergers() {
        says(30, "(but those there already, or of x itself): how many TERMS are left.");
        SubjectNet two = Check.terms(2);
        two.links(0, 1);
        Check.due("y below x", two.merges(0, 1), 1);
        Check.due("no link is left", two.count(2), 0);
        two.undo();
        Check.due("y above x", two.merges(1, 0), 1);
        Check.due("no link is left then", two.count(2), 0);
        Check.dueOrder("x alone", two, 1);
        SubjectNet there = Check.terms(4);
        Check.net(there, "a>b,a>c,b>d,c>d");
        Check.due("both have the same", there.merges(1, 2), 3);
        Check.due("links are there already", there.count(2), 2);
        SubjectNet items = Check.terms(2);
        for (int item = 0; item < 40; item++) {
            items.posts(item, item % 2);
        }
        items.posts(0, 1);
        items.merges(1, 0);
        Check.due("all items, one of them of both", items.count(4), 40);
        says(30, "y's LINKS, and its place in ORDER, go");
        SubjectNet order = Check.terms(4);
        order.links(1, 2);
        Check.due("y is ahead of its narrower one, x behind", order.merges(3, 1), 3);
        Check.dueOrder("mended without y", order, 0, 3, 2);
        Check.due("the last two", order.merges(2, 3), 2);
        Check.dueOrder("the last two", order, 0, 2);
    }

    private static void p31() {
        says(31, "All LINKS that are needless() go: how many.");
        SubjectNet net = three();
        net.links(0, 2);
        Check.due("one", net.thins(), 1);
        Check.due("links", net.count(2), 2);
        Check.due("the way stays", net.way(0, 2), 3);
        SubjectNet dense = Nets.dense();
        Check.due("the most", dense.thins(), 253);
        Check.due("a line is left", dense.count(2), 23);
        Check.due("a line of all", dense.way(0, 23), 24);
        Check.due("all can come back", dense.undo(), 7);
        Check.due("all are back", dense.count(2), 276);
        says(31, "-2: there are none.");
        Check.due("on a new object", new SubjectNet().thins(), -2);
        Check.due("without links", Check.terms(3).thins(), -2);
        SubjectNet few = three();
        int undo = few.count(5);
        Check.due("none", few.thins(), -2);
        Check.due("none: nothing more to undo", few.count(5), undo);
        Check.dueRow("none: the row stays", few, 0, 1, 2);
        Check.due("links stay", few.count(2), 2);
    }

    private static void p32() {
        says(32, "THE TEXT tells A DAY (an empty one: nothing)");
        SubjectNet net = three();
        int undo = net.count(5);
        Check.due("empty", Check.day(net, ""), 0);
        Check.dueRow("empty", net, 0, 2);
        Check.due("empty: nothing more to undo", net.count(5), undo);
        SubjectNet none = new SubjectNet();
        Check.due("empty, on a new object", none.day(), 0);
        Check.dueRow("empty, on a new object", none, 0, 0);
        Check.due("emptied by the day before", Check.day(net, "p0500"), 1);
        Check.due("emptied by the day before", net.day(), 0);
        says(32, "they are done one by one, till one can't be (it answers below 0): how many were done; "
            + "the ROW: 1 if one could not be, else 0, how many LINKS there are then.");
        Check.due("the first", Check.day(net, "l0000l0003"), 0);
        Check.dueRow("the first", net, 1, 2);
        Check.due("the last", Check.day(net, "l0003u0003p0000p0000"), 3);
        Check.dueRow("the last", net, 1, 2);
        Check.due("all", Check.day(net, "l0003"), 1);
        Check.dueRow("all", net, 0, 3);
        Check.due("those behind are not done", Check.day(net, "tl0300u0001"), 0);
        Check.dueRow("those behind are not done", net, 1, 3);
        Check.due("a ring: the row is the day's", Check.day(net, "p0103l0200"), 1);
        Check.dueRow("a ring: the row is the day's", net, 1, 3);
        Check.due("80 signs", Check.day(net, "u0001l0001".repeat(8)), 16);
        Check.dueRow("80 signs", net, 0, 3);
        Check.due("80 acts that can't be", Check.day(net, "t".repeat(80)), 0);
        Check.due("80 signs that thin once", Check.day(net, "l0002" + "t".repeat(75)), 2);
        Check.dueRow("80 signs that thin once", net, 1, 3);
    }

    private static void p32EachAct() {
        says(32, "l, two digits, two digits (links()), u, likewise (unlinks()), m, likewise (merges()), "
            + "g, two digits, a digit (goes()), p, two digits, two digits (posts()), t (thins())");
        SubjectNet net = Check.terms(24);
        Check.due("links, the last term", Check.day(net, "l2300"), 1);
        Check.due("links, the last term: from the first told", net.kin(23, 0), 1);
        Check.due("unlinks, the last term", Check.day(net, "u2300"), 1);
        Check.due("posts, the last item, the last term", Check.day(net, "p3923"), 1);
        Check.due("posts, the last item, the last term", net.posted(39), 1 << 23);
        Check.due("posts, the first item", Check.day(net, "p0023"), 1);
        Check.due("posts, the first item", net.posted(0), 1 << 23);
        Check.due("merges, the first is the one that stays", Check.day(net, "m2322"), 1);
        Check.due("merges, the other one has gone", net.count(1), ALL & ~(1 << 22));
        Check.due("goes without heirs", Check.day(net, "g230"), 1);
        Check.due("goes without heirs: items", net.count(4), 0);
        Check.due("thins", Check.day(net, "l0001l0102l0002t"), 4);
        Check.due("thins: links", net.count(2), 2);
        Check.due("goes with heirs", Check.day(net, "p0701g011"), 2);
        Check.due("goes with heirs: items", net.posted(7), 1);
        String[] cant = {"l0024", "l9900", "l0000", "l0002", "l0200", "u0003", "u2424", "u9999", "m0000", "m0024",
            "m9903", "g240", "g990", "g002", "g009", "g010", "p4000", "p9900", "p0024", "p0700", "p0099", "t"};
        for (String act : cant) {
            int terms = net.count(1);
            int undo = net.count(5);
            Check.due(act, Check.day(net, act), 0);
            Check.dueRow(act, net, 1, 1);
            Check.due(act + ": terms stay", net.count(1), terms);
            Check.due(act + ": nothing more to undo", net.count(5), undo);
        }
    }

    private static void p32WrongSigns() {
        says(32, "ACTS one behind another, without signs between");
        SubjectNet two = three();
        Check.due("a sign between", Check.day(two, "l0003,l0302"), -6);
        Check.due("a space between", Check.day(two, "l0003 l0302"), -6);
        Check.due("none between", Check.day(two, "l0003l0302"), 2);
        says(32, "-1 - p: the sign at p can't stand there (its end, if it ends too early); nothing is done then.");
        String[] texts = {"a", "0", " ", "L0001", "\u0000", "\u00ec0001", "l", "l0", "l00", "l000", "u000", "m0", "g",
            "g0", "g00", "p", "p000", "la001", "l0a01", "l00a1", "l000a", "g00a", "l0003l", "l0003x", "l0003l00 1",
            "l0003,l0102", "l00030", "g0000", "t0", "tt,", "p0003t1", "l/000", "l:000", "l000/", "l000:", "g00/",
            "g00:", "l+103", "l-103", "m0001g"};
        int[] signs = {0, 0, 0, 0, 0, 0, 1, 2, 3, 4, 4, 2, 1,
            2, 3, 1, 4, 1, 2, 3, 4, 3, 6, 5, 8,
            5, 5, 4, 1, 2, 6, 1, 1, 4, 4, 3,
            3, 1, 1, 6};
        for (int i = 0; i < texts.length; i++) {
            SubjectNet net = three();
            int undo = net.count(5);
            Check.due(texts[i], Check.day(net, texts[i]), -1 - signs[i]);
            Check.due(texts[i] + ": emptied", net.count(7), 0);
            Check.due(texts[i] + ": terms", net.count(0), 4);
            Check.due(texts[i] + ": links", net.count(2), 2);
            Check.due(texts[i] + ": items", net.count(4), 2);
            Check.due(texts[i] + ": nothing more to undo", net.count(5), undo);
            Check.dueRow(texts[i] + ": the row", net, 0, 1, 2);
        }
        SubjectNet net = three();
        Check.due("80 signs end too early", Check.day(net, "l0003".repeat(15) + "tl000"), -81);
        Check.due("80 signs, the last one", Check.day(net, "l0003".repeat(15) + "l000x"), -80);
        Check.due("one can't be ahead of the wrong sign", Check.day(net, "l0000x"), -6);
        Check.due("links", net.count(2), 2);
    }

    private static void p33() {
        says(33, "(of 8 that are kept, the latest ones; such as were done; net(), day() of which one LINK that was "
            + "not there, one ACT was done, as one)");
        SubjectNet net = Check.terms(1);
        for (int i = 0; i < 12; i++) {
            net.posts(i, 0);
            Check.due("what can be undone", net.count(5), Math.min(8, i + 2));
        }
        for (int left = 7; left >= 0; left--) {
            Check.due("undo", net.undo(), left);
            Check.due("postings", net.count(4), 4 + left);
        }
        Check.due("the first four stay", net.posted(3), 1);
        says(33, "Refused: none.");
        Check.due("none", net.undo(), -1);
        Check.due("none, once more", net.undo(), -1);
        Check.due("postings stay", net.count(4), 4);
        Check.due("one more", net.posts(20, 0), 5);
        Check.due("it can be undone", net.undo(), 0);
        Check.due("none then", net.undo(), -1);
        Check.due("on a new object", new SubjectNet().undo(), -1);
        says(33, "(again() forgets them, if it is not refused.)");
        SubjectNet back = Check.terms(3);
        back.keep(0);
        back.links(2, 0);
        Check.due("refused", back.again(1), false);
        Check.due("refused: nothing is forgotten", back.count(5), 4);
        Check.due("refused by its number", back.again(2), false);
        Check.due("refused by its number: nothing is forgotten", back.count(5), 4);
        Check.due("not refused", back.again(0), true);
        Check.due("all is forgotten", back.count(5), 0);
        Check.due("undo is refused", back.undo(), -1);
        Check.dueOrder("as it was kept", back, 0, 1, 2);
        back.links(1, 0);
        Check.due("changes behind it can be undone", back.undo(), 0);
        Check.dueOrder("as it was kept, again", back, 0, 1, 2);
    }

    private static void p33SuchAsWereDone() {
        says(33, "The latest term(), label(), links(), unlinks(), net(), posts(), unposts(), goes(), merges(), "
            + "thins(), day()");
        SubjectNet net = three();
        for (int i = 0; i < 4; i++) {
            net.undo();
        }
        Check.due("four are left", net.count(5), 4);
        Check.due("a net of no links", Check.net(net, ""), 0);
        Check.due("a net of a wrong sign", Check.net(net, "a>b,z>a"), -5);
        Check.due("a net that closes a ring at once", Check.net(net, "d>d"), 0);
        Check.due("a day of nothing", Check.day(net, ""), 0);
        Check.due("a day of a wrong sign", Check.day(net, "l0001x"), -6);
        Check.due("a day that can't be", Check.day(net, "l0000"), 0);
        Check.due("a term that is told", Check.term(net, "a"), -100);
        Check.due("a label that is told", Check.label(net, "a", 1), -100);
        Check.due("links to itself", net.links(1, 1), -1);
        Check.due("unlinks of none", net.unlinks(3, 0), -2);
        Check.due("unposts of none", net.unposts(3, 0), -2);
        Check.due("goes of none", net.goes(20, 0), -1);
        Check.due("merges of none", net.merges(20, 0), -1);
        Check.due("thins of none", net.thins(), -2);
        Check.due("none of these can be undone", net.count(5), 4);
        Check.due("one link", Check.net(net, "a>d,d>a"), 1);
        Check.due("one link can be undone", net.count(5), 5);
        Check.due("passed by, and one link", Check.net(net, "a>d,d>c"), 2);
        Check.due("passed by, and one link, can be undone", net.count(5), 6);
        Check.due("passed by", Check.net(net, "a>d,d>c"), 2);
        Check.due("passed by can't", net.count(5), 6);
        Check.due("one act", Check.day(net, "p0000p0000"), 1);
        Check.due("one act can be undone", net.count(5), 7);
        Check.due("three acts", Check.day(net, "p0100p0200u0003"), 3);
        Check.due("three acts are undone as one", net.undo(), 7);
        Check.due("items", net.count(4), 1);
        Check.due("the link is back", net.kin(0, 0) >> 3 & 1, 1);
        Check.due("one act is undone", net.undo(), 6);
        Check.due("items then", net.count(4), 0);
        Check.due("a net is undone", net.undo(), 5);
        Check.due("its link has gone", net.kin(3, 0), 0);
    }

    private static void p34() {
        says(34, "n times (1 .. 60; it is forgotten)");
        SubjectNet net = Check.terms(24);
        net.tops();
        int one = net.years(1, 1);
        Check.due("once", one >= 0, true);
        Check.due("the row has two numbers", net.count(6), 2);
        Check.due("60 times", net.years(1, 60) > one, true);
        Check.due("no link is left", net.count(2), 0);
        Check.due("nothing more to undo", net.count(5), 8);
        for (int t = 0; t < 24; t++) {
            Check.due("order is as it was", Check.placed(net, t), t);
        }
        says(34, "NONE: another n.");
        long rings = net.row(0);
        long places = net.row(1);
        for (int n : new int[] {0, -1, 61, 62, MIN, MAX}) {
            Check.due("years(1, " + n + ")", net.years(1, n), -1);
        }
        Check.dueRow("the row stays", net, rings, places);
        Check.due("on a new object", new SubjectNet().years(0, 0), -1);
        says(34, "links() (what is refused is not done): how many LINKS COME; the ROW: how many RINGS there would be, "
            + "TERMS that have another place than now at last.");
        SubjectNet none = new SubjectNet();
        Check.due("no terms", none.years(5, 60), 0);
        Check.dueRow("no terms", none, 0, 0);
        SubjectNet single = Check.terms(1);
        Check.due("one term", single.years(5, 60), 0);
        Check.dueRow("one term", single, 0, 0);
        SubjectNet dense = Nets.dense();
        Check.due("all links are there", dense.years(5, 60), 0);
        int rounds = 0;
        int[] drawn = draws(5, 120);
        for (int i = 0; i < 120; i += 2) {
            rounds += drawn[i] > drawn[i + 1] ? 1 : 0;
        }
        Check.dueRow("all links are there: rings", dense, rounds, 0);
    }

    private static int[] draws(int seed, int n) {
        int[] drawn = new int[n];
        long r = seed;
        for (int i = 0; i < n; i++) {
            r = r * 1103515245L + 12345L & 0xffffffffL;
            drawn[i] = (int) (r / 65536 % 24);
        }
        return drawn;
    }

    private static void p34Draws() {
        says(34, "R = R times 1103515245 + 12345 (as ints; R is seed at first), (R without sign, by 65536) % n.");
        int below0 = 0;
        for (int seed : new int[] {0, 1, -1, 2, 65535, 65536, -65536, MIN, MIN + 1, MAX, MAX - 1, 0x7fff0000}) {
            int[] drawn = draws(seed, 120);
            int r = seed;
            for (int n : new int[] {1, 2, 7, 59, 60}) {
                SubjectNet net = Check.terms(24);
                SubjectNet byHand = Check.terms(24);
                int came = 0;
                int rings = 0;
                for (int i = 0; i < n; i++) {
                    int answer = byHand.links(drawn[2 * i], drawn[2 * i + 1]);
                    came += answer >= 0 ? 1 : 0;
                    rings += answer == -4 ? 1 : 0;
                }
                int places = 0;
                for (int t = 0; t < 24; t++) {
                    places += Check.placeOf(byHand, t) == t ? 0 : 1;
                }
                Check.due("years(" + seed + ", " + n + ")", net.years(seed, n), came);
                Check.dueRow("years(" + seed + ", " + n + ")", net, rings, places);
            }
            for (int i = 0; i < 120; i++) {
                r = r * 1103515245 + 12345;
                below0 += r < 0 ? 1 : 0;
            }
        }
        Check.due("draws went over the greatest int", below0 > 100, true);
    }

    private static void p35() {
        says(35, "All that 1. tells of is kept under a number 0 .. 1: true.");
        SubjectNet net = three();
        Check.label(net, "aa", 0);
        net.links(3, 0);
        Check.due("keep(0)", net.keep(0), true);
        net.goes(1, 1);
        Check.label(net, "dd", 3);
        Check.due("keep(1)", net.keep(1), true);
        for (int t = 0; t < 4; t++) {
            net.goes(t, 0);
        }
        Check.due("all went", net.count(0) + net.count(3) + net.count(4), 0);
        net.again(0);
        Check.dueOrder("0: order", net, 3, 0, 1, 2);
        Check.due("0: links", net.count(2), 3);
        Check.due("0: labels", net.labels(0), 2);
        Check.due("0: items", net.posted(39), 2);
        net.again(1);
        Check.dueOrder("1: order", net, 3, 0, 2);
        Check.due("1: links", net.count(2), 2);
        Check.due("1: labels", net.labels(3), 2);
        Check.due("1: items", net.posted(39), 1);
        Check.due("keep(0) once more", net.keep(0), true);
        net.goes(0, 0);
        net.again(0);
        Check.dueOrder("0 is as it was kept last", net, 3, 0, 2);
        says(35, "Refused: others.");
        for (int i : new int[] {-1, 2, 3, 32, MIN, MAX}) {
            Check.due("keep(" + i + ")", net.keep(i), false);
        }
        net.goes(0, 0);
        net.again(1);
        Check.dueOrder("refused ones keep nothing", net, 3, 0, 2);
    }

    private static void p36() {
        says(36, "It is as it was kept under a number.");
        SubjectNet net = three();
        Check.text(net, "qx");
        net.keep(1);
        net.end(1);
        net.goes(0, 0);
        net.tops();
        Check.due("again(1)", net.again(1), true);
        Check.due("it is as it was", net.count(0), 4);
        Check.due("the text is not of it", net.count(7), 1);
        Check.dueRow("the row is not of it", net, 12, 8);
        Check.due("once more", net.again(1), true);
        net.posts(9, 0);
        Check.due("changes don't reach it", net.again(1), true);
        Check.due("changes don't reach it", net.posted(9), 0);
        says(36, "Refused: nothing kept.");
        net.links(3, 0);
        Check.due("nothing under 0", net.again(0), false);
        for (int i : new int[] {-1, 2, 3, 32, MIN, MAX}) {
            Check.due("again(" + i + ")", net.again(i), false);
        }
        Check.due("links stay", net.count(2), 3);
        Check.due("it can be undone", net.undo(), 0);
        Check.due("on a new object", new SubjectNet().again(0), false);
        Check.due("on a new object, 1", new SubjectNet().again(1), false);
        SubjectNet empty = new SubjectNet();
        empty.keep(0);
        Check.due("an empty net was kept", empty.again(0), true);
        Check.due("but not under 1", empty.again(1), false);
    }

    private static void p37() {
        says(37, "What 0: TERMS, 1: TERMS (bits), 2: LINKS, 3: LABELS, 4: postings (of all TERMS together), "
            + "5: what can be undone, 6: numbers of the ROW, 7: signs of THE TEXT.");
        SubjectNet none = new SubjectNet();
        for (int what = 0; what < 8; what++) {
            Check.due("a new object, " + what, none.count(what), 0);
        }
        SubjectNet full = Nets.full();
        int[] due = {24, ALL, 23, 40, 40, 8, 24, 2};
        for (int what = 0; what < 8; what++) {
            Check.due("a full one, " + what, full.count(what), due[what]);
        }
        SubjectNet dense = Nets.dense();
        Check.due("most links", dense.count(2), 276);
        dense.needless();
        Check.due("most numbers", dense.count(6), 253);
        Check.text(dense, "a".repeat(80));
        Check.due("most signs", dense.count(7), 80);
        says(37, "NONE for another what.");
        for (int what : new int[] {-1, 8, 9, 32, MIN, MAX}) {
            Check.due("count(" + what + ")", dense.count(what), -1);
        }
        Check.due("the row stays", dense.count(6), 253);
    }

    private static void p38() {
        says(38, "NoSuchElementException: none such.");
        SubjectNet net = new SubjectNet();
        Check.due("no numbers yet", Check.number(net, 0), Long.MIN_VALUE);
        net.needless();
        Check.due("an empty row", Check.number(net, 0), Long.MIN_VALUE);
        SubjectNet dense = Nets.dense();
        dense.needless();
        Check.due("the first", Check.number(dense, 0), 2);
        Check.due("the last", Check.number(dense, 252), 2123);
        for (int i : new int[] {253, 254, 275, 276, 277, -1, MIN, MAX}) {
            Check.due("row(" + i + ")", Check.number(dense, i), Long.MIN_VALUE);
        }
        dense.tops();
        Check.due("of a shorter one, the last", Check.number(dense, 1), 0);
        Check.due("nothing is left of the longer one", Check.number(dense, 2), Long.MIN_VALUE);
        dense.ways(0, 23);
        Check.due("a great number", Check.number(dense, 0), 1 << 22);
    }
}
