import java.io.IOException;
import java.nio.file.Path;

/** The boundary cases of promises 14 to 24, sentence by sentence; arguments: the source, the document. */
public final class EdgesOfKin {
    private static final int MIN = Integer.MIN_VALUE;
    private static final int MAX = Integer.MAX_VALUE;
    private static final int ALL = (1 << 24) - 1;
    private static final int[] NO_TERMS = {24, 25, 31, 32, 55, 64, -1, -24, MIN, MAX};

    /** A question for two TERMS. */
    private interface Pair {
        int on(SubjectNet net, int x, int y);
    }

    private EdgesOfKin() {
    }

    public static void main(String[] args) throws IOException {
        p14();
        p15();
        p16();
        p17();
        p18();
        p19();
        p20();
        p21();
        p22();
        p23();
        p24();
        Document.check(Path.of(args[1]), 14, 24);
        Check.finish("EdgesOfKin");
    }

    private static void says(int section, String words) {
        Document.says(section, words);
    }

    /** a > b > c; d apart; e has gone; the ROW is 0, 1, 2. */
    private static SubjectNet three() {
        SubjectNet net = Check.terms(5);
        Check.net(net, "a>b,b>c");
        net.goes(4, 0);
        net.way(0, 2);
        return net;
    }

    private static void none(String name, Pair pair, boolean mayBeOne) {
        SubjectNet net = three();
        for (int t : NO_TERMS) {
            Check.due(name + "(" + t + ", 0)", pair.on(net, t, 0), -1);
            Check.due(name + "(0, " + t + ")", pair.on(net, 0, t), -1);
            Check.due(name + "(" + t + ", " + t + ")", pair.on(net, t, t), -1);
        }
        Check.due(name + " from one that has gone", pair.on(net, 4, 0), -1);
        Check.due(name + " to one that has gone", pair.on(net, 0, 4), -1);
        Check.due(name + " of one that has gone", pair.on(net, 4, 4), -1);
        Check.due(name + " to one that never came", pair.on(net, 0, 23), -1);
        for (int t = 0; t < 4 && !mayBeOne; t++) {
            Check.due(name + " of one and the same", pair.on(net, t, t), -1);
        }
        Check.dueRow(name + ": the row stays with NONE", net, 0, 1, 2);
    }

    private static void noWay(String name, Pair pair) {
        SubjectNet net = three();
        Check.due(name + ": upwards", pair.on(net, 1, 0), -2);
        Check.due(name + ": far upwards", pair.on(net, 2, 0), -2);
        Check.due(name + ": to one apart", pair.on(net, 0, 3), -2);
        Check.due(name + ": from one apart", pair.on(net, 3, 0), -2);
        Check.dueRow(name + ": the row stays with -2", net, 0, 1, 2);
        net.unlinks(1, 2);
        net.tops();
        Check.due(name + ": not any more", pair.on(net, 0, 2), -2);
        Check.dueRow(name + ": the row stays with -2 again", net, 14, 12);
    }

    private static void p14() {
        says(14, "TERMS that are NARROWER than a TERM (what 0), BROADER (1), below it (2), above it (3): "
            + "bits; the ROW: how many.");
        SubjectNet lone = Check.terms(24);
        for (int t : new int[] {0, 23}) {
            int[] due = {0, 0, 1 << t, 1 << t};
            for (int what = 0; what < 4; what++) {
                Check.due("one apart, " + what, lone.kin(t, what), due[what]);
                Check.dueRow("one apart, " + what, lone, due[what] == 0 ? 0 : 1);
            }
        }
        SubjectNet dense = Nets.dense();
        int[] first = {ALL - 1, 0, ALL, 1};
        int[] last = {0, ALL >> 1, 1 << 23, ALL};
        for (int what = 0; what < 4; what++) {
            Check.due("the first of all, " + what, dense.kin(0, what), first[what]);
            Check.dueRow("the first of all, " + what, dense, Integer.bitCount(first[what]));
            Check.due("the last of all, " + what, dense.kin(23, what), last[what]);
            Check.dueRow("the last of all, " + what, dense, Integer.bitCount(last[what]));
        }
        says(14, "NONE: no such TERM, another what.");
        SubjectNet net = three();
        for (int what = 0; what < 4; what++) {
            for (int t : NO_TERMS) {
                Check.due("kin(" + t + ", " + what + ")", net.kin(t, what), -1);
            }
            Check.due("gone", net.kin(4, what), -1);
        }
        for (int what : new int[] {-1, 4, 5, 32, MIN, MAX}) {
            Check.due("kin(0, " + what + ")", net.kin(0, what), -1);
            Check.due("kin(24, " + what + ")", net.kin(24, what), -1);
        }
        Check.dueRow("the row stays", net, 0, 1, 2);
    }

    private static void p15() {
        says(15, "The FIRST WAY: how many TERMS; the ROW: they.");
        SubjectNet net = three();
        Check.due("the shortest", net.way(1, 2), 2);
        Check.dueRow("the shortest", net, 1, 2);
        net.links(0, 2);
        Check.due("the straight link", net.way(0, 2), 2);
        Check.dueRow("the straight link", net, 0, 2);
        SubjectNet line = Nets.line();
        Check.due("over all", line.way(0, 23), 24);
        for (int i = 0; i < 24; i++) {
            Check.due("over all, " + i, line.row(i), i);
        }
        SubjectNet back = Nets.full();
        Check.due("over all, back", back.way(23, 0), 24);
        Check.due("over all, back, the last", back.row(23), 0);
        says(15, "-2: there is none");
        noWay("way", SubjectNet::way);
        says(15, "NONE: no such TERMS, both are one.");
        none("way", SubjectNet::way, false);
    }

    private static void p16() {
        says(16, "Of how many TERMS the longest WAY from x to y is; the ROW: how many WAYS there are.");
        SubjectNet net = three();
        Check.due("one link", net.ways(0, 1), 2);
        Check.dueRow("one link", net, 1);
        SubjectNet dense = Nets.dense();
        Check.due("over all", dense.ways(0, 23), 24);
        Check.dueRow("the most that there can be", dense, 1 << 22);
        Check.due("neighbours", dense.ways(22, 23), 2);
        Check.dueRow("neighbours", dense, 1);
        says(16, "-2: there is none");
        noWay("ways", SubjectNet::ways);
        says(16, "NONE: as way().");
        none("ways", SubjectNet::ways, false);
    }

    private static void p17() {
        says(17, "TERMS on WAYS from x to y, both, too: bits; the ROW: how many LINKS there are among them.");
        SubjectNet net = three();
        Check.due("both alone", net.between(1, 2), 6);
        Check.dueRow("both alone", net, 1);
        net.links(3, 1);
        Check.due("others aside", net.between(0, 2), 7);
        Check.dueRow("others aside", net, 2);
        SubjectNet dense = Nets.dense();
        Check.due("all", dense.between(0, 23), ALL);
        Check.dueRow("all", dense, 276);
        says(17, "-2: there is none");
        noWay("between", SubjectNet::between);
        says(17, "NONE: as way().");
        none("between", SubjectNet::between, false);
    }

    private static void p18() {
        says(18, "TERMS above both (one may be the other): bits; "
            + "the ROW: those of them below which there is no other one of them (bits).");
        SubjectNet net = three();
        Check.due("one may be the other", net.meets(2, 2), 7);
        Check.dueRow("one may be the other", net, 4);
        Check.due("one is above the other", net.meets(0, 2), 1);
        Check.dueRow("one is above the other", net, 1);
        Check.due("the other is above", net.meets(2, 1), 3);
        Check.dueRow("the other is above", net, 2);
        Check.due("one apart, with itself", net.meets(3, 3), 8);
        Check.dueRow("one apart, with itself", net, 8);
        Check.due("none is above both", net.meets(0, 3), 0);
        Check.dueRow("none is above both", net, 0);
        SubjectNet dense = Nets.dense();
        Check.due("all", dense.meets(23, 23), ALL);
        Check.dueRow("all", dense, 1 << 23);
        Check.due("all but one", dense.meets(22, 23), ALL >> 1);
        Check.dueRow("all but one", dense, 1 << 22);
        SubjectNet wide = Check.terms(24);
        Check.net(wide, "c>a,d>a,e>a,f>a,c>b,d>b,e>b,x>b,x>a,f>e");
        Check.due("several", wide.meets(0, 1), 4 + 8 + 16 + 32 + (1 << 23));
        Check.dueRow("several are nearest", wide, 4 + 8 + 16 + (1 << 23));
        says(18, "NONE: no such TERMS.");
        none("meets", SubjectNet::meets, true);
    }

    private static void p19() {
        says(19, "The fewest LINKS over which one comes from x to y, up or down: how many (0: both are one).");
        SubjectNet net = three();
        for (int t = 0; t < 4; t++) {
            Check.due("both are one", net.steps(t, t), 0);
        }
        Check.due("down", net.steps(0, 1), 1);
        Check.due("up", net.steps(1, 0), 1);
        Check.due("far up", net.steps(2, 0), 2);
        net.links(3, 2);
        Check.due("down, then up", net.steps(0, 3), 3);
        SubjectNet line = Nets.line();
        Check.due("the most, down", line.steps(0, 23), 23);
        Check.due("the most, up", line.steps(23, 0), 23);
        line.links(0, 23);
        Check.due("the fewest of two roads", line.steps(0, 22), 2);
        says(19, "-2: there is no such road");
        SubjectNet apart = three();
        Check.due("to one apart", apart.steps(0, 3), -2);
        Check.due("from one apart", apart.steps(3, 2), -2);
        Check.dueRow("the row stays with -2", apart, 0, 1, 2);
        SubjectNet lone = Check.terms(24);
        Check.due("no links at all", lone.steps(0, 23), -2);
        SubjectNet parts = Nets.line();
        parts.unlinks(11, 12);
        Check.due("two long parts", parts.steps(0, 23), -2);
        Check.due("a long part", parts.steps(12, 23), 11);
        says(19, "NONE: no such TERMS.");
        none("steps", SubjectNet::steps, true);
    }

    private static void p20() {
        says(20, "LINKS on the longest WAY to a TERM; the ROW: on the longest one from it.");
        SubjectNet net = three();
        Check.due("apart", net.depth(3), 0);
        Check.dueRow("apart", net, 0);
        Check.due("at the top", net.depth(0), 0);
        Check.dueRow("at the top", net, 2);
        net.links(0, 2);
        Check.due("the longest", net.depth(2), 2);
        Check.dueRow("the longest", net, 0);
        SubjectNet dense = Nets.dense();
        for (int t = 0; t < 24; t++) {
            Check.due("of all, " + t, dense.depth(t), t);
            Check.dueRow("of all, " + t, dense, 23 - t);
        }
        says(20, "NONE: no such TERM.");
        SubjectNet few = three();
        for (int t : NO_TERMS) {
            Check.due("depth(" + t + ")", few.depth(t), -1);
        }
        Check.due("gone", few.depth(4), -1);
        Check.dueRow("the row stays", few, 0, 1, 2);
    }

    private static void p21() {
        says(21, "TERMS without BROADER ones: bits; the ROW: those without NARROWER ones (bits), those with neither.");
        SubjectNet empty = new SubjectNet();
        Check.due("no terms", empty.tops(), 0);
        Check.dueRow("no terms", empty, 0, 0);
        SubjectNet one = Check.terms(1);
        Check.due("one term", one.tops(), 1);
        Check.dueRow("one term", one, 1, 1);
        SubjectNet lone = Check.terms(24);
        Check.due("no links", lone.tops(), ALL);
        Check.dueRow("no links", lone, ALL, ALL);
        SubjectNet line = Nets.line();
        Check.due("a line", line.tops(), 1);
        Check.dueRow("a line", line, 1 << 23, 0);
        SubjectNet net = three();
        Check.due("one apart", net.tops(), 9);
        Check.dueRow("one apart", net, 12, 8);
    }

    private static void p22() {
        says(22, "LINKS besides which there is another WAY from the one to the other: how many; the ROW: "
            + "of each 100 times the BROADER, and the NARROWER, by these numbers rising.");
        SubjectNet empty = new SubjectNet();
        Check.due("no terms", empty.needless(), 0);
        Check.dueRow("no terms", empty);
        SubjectNet net = three();
        Check.due("none: the row is empty", net.needless(), 0);
        Check.dueRow("none: the row is empty", net);
        net.links(0, 2);
        Check.due("the fewest", net.needless(), 1);
        Check.dueRow("the fewest", net, 2);
        SubjectNet dense = Nets.dense();
        Check.due("the most", dense.needless(), 253);
        int i = 0;
        for (int x = 0; x < 24; x++) {
            for (int y = x + 2; y < 24; y++) {
                Check.due("the most, " + i, Check.number(dense, i), 100 * x + y);
                i++;
            }
        }
        Check.due("no number behind", Check.number(dense, 253), Long.MIN_VALUE);
        SubjectNet back = Check.terms(24);
        Check.net(back, "x>w,w>a,x>a,w>v,x>v");
        Check.due("the greatest numbers", back.needless(), 2);
        Check.dueRow("the greatest numbers", back, 2300, 2321);
    }

    private static void p23() {
        says(23, "The fewest CHAINS into which all TERMS can be parted (of a CHAIN each one is below the one ahead): "
            + "how many; the ROW: how many TERMS the longest WAY of all has (0 without TERMS).");
        SubjectNet empty = new SubjectNet();
        Check.due("no terms", empty.chains(), 0);
        Check.dueRow("no terms", empty, 0);
        SubjectNet one = Check.terms(1);
        Check.due("one term", one.chains(), 1);
        Check.dueRow("one term", one, 1);
        one.goes(0, 0);
        Check.due("it went", one.chains(), 0);
        Check.dueRow("it went", one, 0);
        SubjectNet lone = Check.terms(24);
        Check.due("the most", lone.chains(), 24);
        Check.dueRow("the most", lone, 1);
        SubjectNet line = Nets.line();
        Check.due("the fewest", line.chains(), 1);
        Check.dueRow("the fewest", line, 24);
        SubjectNet dense = Nets.dense();
        Check.due("all linked", dense.chains(), 1);
        Check.dueRow("all linked", dense, 24);
        SubjectNet cross = Check.terms(5);
        Check.net(cross, "a>c,b>c,c>d,c>e");
        Check.due("below, not only linked", cross.chains(), 2);
        Check.dueRow("below, not only linked", cross, 3);
        SubjectNet star = Check.terms(24);
        for (int t = 1; t < 24; t++) {
            star.links(0, t);
        }
        Check.due("one above 23", star.chains(), 23);
        Check.dueRow("one above 23", star, 2);
        SubjectNet pairs = Check.terms(24);
        for (int t = 0; t < 12; t++) {
            pairs.links(t, t + 12);
            pairs.links(t, (t + 1) % 12 + 12);
        }
        Check.due("12 above 12", pairs.chains(), 12);
        Check.dueRow("12 above 12", pairs, 2);
    }

    private static void p24() {
        says(24, "1 if of a set of TERMS none is below another one, else 0; "
            + "the ROW: how many pairs of them are (one below the other).");
        SubjectNet net = three();
        Check.due("an empty set", net.apart(0), 1);
        Check.dueRow("an empty set", net, 0);
        for (int t = 0; t < 4; t++) {
            Check.due("one alone", net.apart(1 << t), 1);
            Check.dueRow("one alone", net, 0);
        }
        Check.due("far below", net.apart(5), 0);
        Check.dueRow("far below", net, 1);
        Check.due("two apart", net.apart(12), 1);
        Check.dueRow("two apart", net, 0);
        Check.due("all", net.apart(15), 0);
        Check.dueRow("all", net, 3);
        SubjectNet lone = Check.terms(24);
        Check.due("all 24 apart", lone.apart(ALL), 1);
        Check.dueRow("all 24 apart", lone, 0);
        SubjectNet line = Nets.line();
        Check.due("all 24 in a line", line.apart(ALL), 0);
        Check.dueRow("all 24 in a line", line, 276);
        says(24, "NONE: a TERM of it is not there, or it is below 0.");
        SubjectNet few = three();
        for (int t = 4; t < 32; t++) {
            Check.due("bit " + t + " alone", few.apart(1 << t), -1);
            Check.due("bit " + t + " with others", few.apart(1 << t | 3), -1);
        }
        Check.due("below 0", few.apart(-1), -1);
        Check.due("the least", few.apart(MIN), -1);
        Check.due("below 0, with terms", few.apart(MIN | 3), -1);
        Check.due("the greatest", few.apart(MAX), -1);
        Check.dueRow("the row stays", few, 0, 1, 2);
        for (int t = 24; t < 32; t++) {
            Check.due("all 24 and bit " + t, line.apart(ALL | 1 << t), -1);
        }
        Check.due("on a new object", new SubjectNet().apart(1), -1);
    }
}
