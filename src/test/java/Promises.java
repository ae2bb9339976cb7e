/** For each promise of the document: ordinary inputs, the edges that it names, wrong inputs. */
public final class Promises {
    private static final int MIN = Integer.MIN_VALUE;
    private static final int MAX = Integer.MAX_VALUE;

    private Promises() {
    }

    public static void main(String[] args) {
        for (char tail : "\u0000a0>,*+t".toCharArray()) {
            Check.tails(tail);
            all();
        }
        Check.finish("Promises");
    }

    private static void all() {
        p1ANewObject();
        p2Sign();
        p3End();
        p4Term();
        p5Label();
        p6Named();
        p7Labels();
        p8Links();
        p8MendsOnlyWhatMustMove();
        p8TellsTheFirstRing();
        p9Unlinks();
        p10Net();
        p10NetOfAnEmptyText();
        p10WrongTexts();
        p11Place();
        p12At();
        p13Would();
        p14Kin();
        p15Way();
        p16Ways();
        p17Between();
        p18Meets();
        p19Steps();
        p20Depth();
        p21Tops();
        p22Needless();
        p23Chains();
        p23ChainsOfManyShapes();
        p24Apart();
        p25Posts();
        p26Unposts();
        p27Search();
        p27WrongTexts();
        p28Posted();
        p29Goes();
        p30Merges();
        p30MergesAndTheOrder();
        p31Thins();
        p32Day();
        p32WrongTexts();
        p33Undo();
        p33UndoOfTheLatestOfMany();
        p33UndoOfEachKind();
        p33WhatIsNotUndone();
        p34Years();
        p35Keep();
        p36Again();
        p37Count();
        p38Row();
        theRowStaysWithAnswersBelow0();
    }

    /** a > b, c; b, c > d; d > e; f apart; beside it a > e. */
    private static SubjectNet diamond() {
        SubjectNet net = Check.terms(6);
        Check.due("diamond", Check.net(net, "a>b,a>c,b>d,c>d,d>e,a>e"), 6);
        return net;
    }

    private static void p1ANewObject() {
        SubjectNet net = new SubjectNet();
        for (int what = 0; what <= 7; what++) {
            Check.due("new: count(" + what + ")", net.count(what), 0);
        }
        Check.dueOrder("new", net);
        Check.dueRow("new", net);
        Check.due("new: NONE", SubjectNet.NONE, -1);
        Check.due("new: undo()", net.undo(), -1);
        Check.due("new: again(0)", net.again(0), false);
        SubjectNet other = Check.terms(2);
        Check.due("objects are apart", net.count(0), 0);
        Check.due("objects are apart, the other", other.count(0), 2);
    }

    private static void p2Sign() {
        SubjectNet net = new SubjectNet();
        for (int n = 4; n <= 80; n += 4) {
            Check.due("sign", net.sign(0x61626364), n);
        }
        Check.due("sign: more than 80", net.sign(0), -1);
        Check.due("sign: refused, the text stays", net.count(7), 80);
        net.end(77);
        Check.due("sign: 81 were too many", net.sign(0), -1);
        net.end(76);
        Check.due("sign: 80 are not", net.sign(0), 80);
        net.end(0);
        net.sign(0x78790000);
        net.end(2);
        Check.due("sign: the highest byte first", net.term(), 0);
        Check.due("sign: the highest byte first, letters", net.labels(0), 1);
        Check.dueRow("sign", net, 24 * 32 + 25);
        net.sign(0xff000000);
        Check.due("sign: bytes above 127 are no letters", net.term(), -1);
        net.sign(0xe1000000);
        Check.due("sign: nor those whose lower bits are one", net.term(), -1);
    }

    private static void p3End() {
        SubjectNet net = new SubjectNet();
        Check.due("end(0) of an empty text", net.end(0), true);
        Check.due("end(1) of an empty text", net.end(1), false);
        net.sign(0x61620000);
        Check.due("end(5)", net.end(5), false);
        Check.due("end(-1)", net.end(-1), false);
        Check.due("end(MIN)", net.end(MIN), false);
        Check.due("end(MAX)", net.end(MAX), false);
        Check.due("end: refused, the text stays", net.count(7), 4);
        Check.due("end(4)", net.end(4), true);
        Check.due("end(2)", net.end(2), true);
        Check.due("end(2) again", net.end(2), true);
        Check.due("end: count(7)", net.count(7), 2);
        Check.due("end(3) is more than there are", net.end(3), false);
        Check.due("end: then a term", net.term(), 0);
    }

    private static void p4Term() {
        SubjectNet net = new SubjectNet();
        Check.due("term: a", Check.term(net, "a"), 0);
        Check.due("term: the text is emptied", net.count(7), 0);
        Check.due("term: az", Check.term(net, "az"), 1);
        Check.due("term: empty", Check.term(net, ""), -1);
        Check.due("term: A", Check.term(net, "A"), -1);
        Check.due("term: a sign below a", Check.term(net, "`"), -1);
        Check.due("term: a sign above z", Check.term(net, "{"), -1);
        Check.due("term: b1", Check.term(net, "b1"), -2);
        Check.due("term: bcd", Check.term(net, "bcd"), -3);
        Check.due("term: bc followed by 0", Check.term(net, "bc\u0000\u0000"), -3);
        Check.due("term: a wrong text is emptied", net.count(7), 0);
        Check.due("term: told already", Check.term(net, "az"), -100);
        Check.due("term: told already, emptied", net.count(7), 0);
        Check.due("term: za is another than az", Check.term(net, "za"), 2);
        Check.due("term: zaa is wrong ahead of told", Check.term(net, "zaa"), -3);
        Check.due("term: nothing undone but three", net.count(5), 3);
        net.goes(1, 0);
        Check.due("term: the least free number", Check.term(net, "q"), 1);
        Check.dueOrder("term: behind all", net, 0, 2, 1);
        Check.due("term: a label that went is free", Check.term(net, "az"), 3);

        SubjectNet full = Check.terms(24);
        Check.due("term: 24 of them", full.count(0), 24);
        Check.due("term: one too many", Check.term(full, "z"), -200);
        Check.due("term: told comes ahead of full", Check.term(full, "a"), -100);
        Check.due("term: a sign comes ahead of full", Check.term(full, "1"), -1);
        Check.due("term: full changes nothing", full.count(1), (1 << 24) - 1);

        SubjectNet many = Check.terms(1);
        for (int i = 0; i < 39; i++) {
            Check.label(many, "" + (char) ('b' + i / 26) + (char) ('a' + i % 26), 0);
        }
        Check.due("term: 40 labels", many.count(3), 40);
        Check.due("term: one label too many", Check.term(many, "z"), -200);
        Check.due("term: one label too many, terms", many.count(0), 1);
    }

    private static void p5Label() {
        SubjectNet net = Check.terms(2);
        Check.due("label", Check.label(net, "x", 0), 2);
        Check.due("label once more", Check.label(net, "xy", 0), 3);
        Check.due("label: the text is emptied", net.count(7), 0);
        Check.due("label: of another term", Check.label(net, "x", 1), -100);
        Check.due("label: its own", Check.label(net, "a", 0), -100);
        Check.due("label: no such term", Check.label(net, "z", 2), -300);
        Check.due("label: no such term, the text is emptied", net.count(7), 0);
        Check.due("label: no such term is asked first", Check.label(net, "1", 2), -300);
        Check.due("label: no such term ahead of told", Check.label(net, "a", -1), -300);
        Check.due("label: term 32", Check.label(net, "z", 32), -300);
        Check.due("label: term 24", Check.label(net, "z", 24), -300);
        Check.due("label: empty", Check.label(net, "", 0), -1);
        Check.due("label: xx1", Check.label(net, "xx1", 0), -3);
        Check.due("label: x.", Check.label(net, "x.", 0), -2);
        Check.due("label: refused ones change nothing", net.count(3), 4);
        Check.due("label: refused ones can't be undone", net.count(5), 4);
        for (int i = 0; i < 36; i++) {
            Check.due("label " + i, Check.label(net, "" + (char) ('b' + i / 26) + (char) ('a' + i % 26), 1), i + 2);
        }
        Check.due("label: 41 are too many", Check.label(net, "z", 0), -200);
        Check.due("label: told ahead of full", Check.label(net, "x", 0), -100);
        Check.due("label: no term ahead of full", Check.label(net, "z", 9), -300);
        net.goes(1, 0);
        Check.due("label: there is room again", Check.label(net, "z", 0), 4);
    }

    private static void p6Named() {
        SubjectNet net = Check.terms(3);
        Check.label(net, "bc", 2);
        Check.due("named: b", Check.named(net, "b"), 1);
        Check.due("named: the text is emptied", net.count(7), 0);
        Check.due("named: bc", Check.named(net, "bc"), 2);
        Check.due("named: none", Check.named(net, "cb"), -100);
        Check.due("named: empty", Check.named(net, ""), -1);
        Check.due("named: 7", Check.named(net, "7"), -1);
        Check.due("named: b7", Check.named(net, "b7"), -2);
        Check.due("named: bcd", Check.named(net, "bcd"), -3);
        Check.due("named: unknown with a sign more", Check.named(net, "cb>"), -3);
        Check.due("named: wrong ones are emptied", net.count(7), 0);
        net.merges(0, 2);
        Check.due("named: labels lead on", Check.named(net, "bc"), 0);
        Check.due("named: labels lead on, c", Check.named(net, "c"), 0);
        net.goes(0, 1);
        Check.due("named: labels went", Check.named(net, "bc"), -100);
    }

    private static void p7Labels() {
        SubjectNet net = Check.terms(3);
        Check.label(net, "zz", 0);
        Check.label(net, "ba", 1);
        Check.label(net, "m", 0);
        Check.due("labels(0)", net.labels(0), 3);
        Check.dueRow("labels(0)", net, 32, 26 * 32 + 26, 13 * 32);
        Check.due("labels(1)", net.labels(1), 2);
        Check.dueRow("labels(1)", net, 64, 65);
        Check.due("labels(3)", net.labels(3), -1);
        Check.due("labels(-1)", net.labels(-1), -1);
        Check.due("labels(32)", net.labels(32), -1);
        Check.dueRow("labels: the row stays", net, 64, 65);
        net.merges(1, 0);
        Check.due("labels of a merger", net.labels(1), 5);
        Check.dueRow("labels of a merger", net, 64, 65, 32, 858, 416);
        Check.label(net, "q", 1);
        net.labels(1);
        Check.dueRow("labels: one more", net, 64, 65, 32, 858, 416, 17 * 32);
        net.merges(2, 1);
        net.labels(2);
        Check.dueRow("labels of two mergers", net, 96, 64, 65, 32, 858, 416, 17 * 32);
    }

    private static void p8Links() {
        SubjectNet net = Check.terms(5);
        Check.due("links(0, 1)", net.links(0, 1), 0);
        Check.due("links(0, 1) again", net.links(0, 1), -2);
        Check.due("links(1, 0)", net.links(1, 0), -4);
        Check.dueRow("links(1, 0)", net, 0, 1);
        Check.due("links(1, 1)", net.links(1, 1), -1);
        Check.due("links(9, 9)", net.links(9, 9), -1);
        Check.due("links(0, 5)", net.links(0, 5), -1);
        Check.due("links(5, 0)", net.links(5, 0), -1);
        Check.due("links(-1, 0)", net.links(-1, 0), -1);
        Check.due("links(0, 33)", net.links(0, 33), -1);
        Check.due("links(MIN, MAX)", net.links(MIN, MAX), -1);
        Check.dueRow("links: the row stays", net, 0, 1);
        Check.due("links: one is there", net.count(2), 1);
        Check.due("links: refused ones can't be undone", net.count(5), 6);
        Check.due("links(4, 2)", net.links(4, 2), 2);
        Check.dueOrder("links(4, 2)", net, 0, 1, 4, 3, 2);
        Check.due("links(1, 4)", net.links(1, 4), 0);
        Check.due("links(2, 0)", net.links(2, 0), -4);
        Check.dueRow("links(2, 0)", net, 0, 1, 4, 2);
        Check.due("links(3, 0)", net.links(3, 0), 4);
        Check.dueOrder("links(3, 0)", net, 3, 0, 1, 4, 2);
        Check.dueRow("links: done ones tell no row", net, 0, 1, 4, 2);
    }

    private static void p8MendsOnlyWhatMustMove() {
        SubjectNet net = Check.terms(8);
        net.links(1, 6);
        net.links(2, 4);
        net.links(2, 7);
        net.links(0, 5);
        Check.due("mend", net.links(6, 2), 3);
        Check.dueOrder("mend: fore 6, hind 2, 4; 1 stays ahead, 7 behind", net, 0, 1, 6, 3, 2, 5, 4, 7);
        Check.due("mend: 3 behind 5", net.links(5, 3), 2);
        Check.dueOrder("mend: others stay", net, 0, 1, 6, 5, 2, 3, 4, 7);
        Check.due("mend: fore of several", net.links(4, 0), 7);
        Check.dueOrder("mend: fore of several", net, 1, 6, 2, 4, 0, 5, 3, 7);
    }

    private static void p8TellsTheFirstRing() {
        SubjectNet net = Check.terms(7);
        Check.net(net, "a>f,f>g,a>e,e>g,a>b,b>c,c>g");
        Check.due("ring", net.links(6, 0), -4);
        Check.dueRow("ring: the fewest, then the least", net, 0, 4, 6);
        Check.due("ring: nothing came", net.count(2), 7);
    }

    private static void p9Unlinks() {
        SubjectNet net = Check.terms(3);
        net.links(2, 0);
        net.links(0, 1);
        Check.dueOrder("unlinks: ahead", net, 2, 0, 1);
        Check.due("unlinks(0, 2)", net.unlinks(0, 2), -2);
        Check.due("unlinks(2, 1)", net.unlinks(2, 1), -2);
        Check.due("unlinks(1, 1)", net.unlinks(1, 1), -1);
        Check.due("unlinks(0, 3)", net.unlinks(0, 3), -1);
        Check.due("unlinks(32, 0)", net.unlinks(32, 0), -1);
        Check.due("unlinks(0, -1)", net.unlinks(0, -1), -1);
        Check.due("unlinks: refused, can't be undone", net.count(5), 5);
        Check.due("unlinks(2, 0)", net.unlinks(2, 0), 1);
        Check.dueOrder("unlinks: order stays", net, 2, 0, 1);
        Check.due("unlinks(0, 1)", net.unlinks(0, 1), 0);
        Check.due("unlinks(0, 1) again", net.unlinks(0, 1), -2);
    }

    private static void p10Net() {
        SubjectNet net = Check.terms(4);
        Check.label(net, "aa", 0);
        Check.due("net: one", Check.net(net, "d>a"), 1);
        Check.dueRow("net: one", net, 0);
        Check.due("net: the text is emptied", net.count(7), 0);
        Check.dueOrder("net: mended", net, 3, 1, 2, 0);
        Check.due("net: passed by", Check.net(net, "d>aa,d>a"), 2);
        Check.dueRow("net: passed by", net, 0);
        Check.due("net: passed by, nothing to undo", net.count(5), 6);
        Check.due("net: till a ring", Check.net(net, "a>b,d>a,b>d,b>c"), 2);
        Check.dueRow("net: till a ring", net, 1);
        Check.due("net: till a ring, links", net.count(2), 2);
        Check.due("net: till a ring, can be undone", net.count(5), 7);
        Check.due("net: to itself", Check.net(net, "b>c,a>aa,d>c"), 1);
        Check.dueRow("net: to itself", net, 1);
        Check.due("net: to itself, links", net.count(2), 3);
        Check.due("net: to itself at once", Check.net(net, "a>a"), 0);
        Check.dueRow("net: to itself at once", net, 1);
        Check.due("net: nothing came, nothing more to undo", net.count(5), 8);
        Check.due("net: undone as one", net.undo(), 7);
        Check.due("net: undone as one, links", net.count(2), 2);
        Check.due("net: a ring at once", Check.net(net, "a>d"), 0);
        Check.dueRow("net: a ring at once tells 1 alone", net, 1);
    }

    private static void p10NetOfAnEmptyText() {
        SubjectNet empty = new SubjectNet();
        Check.due("net: empty, on a new object", empty.net(), 0);
        Check.dueRow("net: empty, on a new object", empty, 0);
        Check.due("net: empty, nothing to undo", empty.count(5), 0);
        Check.due("net: empty, undo() is refused", empty.undo(), -1);
        SubjectNet net = Check.terms(3);
        net.links(2, 0);
        net.tops();
        Check.due("net: empty, with terms", Check.net(net, ""), 0);
        Check.dueRow("net: empty, with terms", net, 0);
        Check.due("net: empty, links stay", net.count(2), 1);
        Check.due("net: empty, can't be undone", net.count(5), 4);
        Check.dueOrder("net: empty, order stays", net, 2, 1, 0);
        Check.due("net: two links", Check.net(net, "c>b,b>a"), 2);
        Check.due("net: empty, the links told before are not told again", Check.net(net, ""), 0);
        net.unlinks(1, 0);
        Check.due("net: emptied by the call before", net.net(), 0);
        Check.due("net: emptied by the call before, links", net.count(2), 2);
        Check.due("net: a wrong text", Check.net(net, "a>"), -3);
        Check.due("net: emptied by a wrong text", net.net(), 0);
        Check.dueRow("net: emptied by a wrong text", net, 0);
    }

    private static void p10WrongTexts() {
        SubjectNet net = Check.terms(3);
        Check.label(net, "bc", 1);
        net.tops();
        String[] texts = {",", ">", "a", "a>", "ax>b", "x>b", "a>x", "a>bx", "a>b,", "a>b,>", "a>b;c>a", "a>b>c",
            "a>b,c", "a>b,c>x", "a>bcd", "a >b", "a>b,a>c ", "A>b", "a>bc", "zzz>a", "a,b"};
        int[] signs = {0, 0, 1, 2, 0, 0, 2, 2, 4, 4, 3, 3, 5, 6, 4, 1, 7, 0, -2, 0, 1};
        for (int i = 0; i < texts.length; i++) {
            Check.due("net: " + texts[i], Check.net(net, texts[i]), -1 - signs[i]);
            Check.due("net: " + texts[i] + ": emptied", net.count(7), 0);
            if (signs[i] >= 0) {
                Check.due("net: " + texts[i] + ": nothing done", net.count(2), 0);
                Check.dueRow("net: " + texts[i] + ": row", net, 7, 7);
            } else {
                net.undo();
                net.tops();
            }
        }
        Check.due("net: wrong ones can't be undone", net.count(5), 4);
    }

    private static void p11Place() {
        SubjectNet net = Check.terms(3);
        net.links(2, 1);
        Check.due("place(0)", Check.placeOf(net, 0), 0);
        Check.due("place(1)", Check.placeOf(net, 1), 2);
        Check.due("place(2)", Check.placeOf(net, 2), 1);
        int[] wrong = {3, -1, 24, 32, 33, MIN, MAX};
        for (int t : wrong) {
            Check.due("place(" + t + ") throws", Check.placeOf(net, t), Long.MIN_VALUE);
        }
        net.goes(0, 0);
        Check.due("place(0), gone", Check.placeOf(net, 0), Long.MIN_VALUE);
        Check.due("place(1), one has gone", Check.placeOf(net, 1), 1);
    }

    private static void p12At() {
        SubjectNet net = Check.terms(3);
        net.links(2, 0);
        Check.dueOrder("at", net, 2, 1, 0);
        int[] wrong = {3, -1, 24, MIN, MAX};
        for (int p : wrong) {
            Check.due("at(" + p + ") throws", Check.placed(net, p), Long.MIN_VALUE);
        }
        net.goes(1, 0);
        Check.due("at(2), one has gone", Check.placed(net, 2), Long.MIN_VALUE);
        Check.due("at(1), one has gone", Check.placed(net, 1), 0);
    }

    private static void p13Would() {
        SubjectNet net = Check.terms(4);
        net.links(0, 1);
        int undo = net.count(5);
        Check.due("would(3, 1)", net.would(3, 1), 2);
        Check.dueRow("would(3, 1)", net, 0, 3, 2, 1);
        Check.dueOrder("would: order is as it was", net, 0, 1, 2, 3);
        Check.due("would: no link came", net.count(2), 1);
        Check.due("would: nothing to undo", net.count(5), undo);
        Check.due("would(1, 2)", net.would(1, 2), 0);
        Check.dueRow("would(1, 2)", net, 0, 1, 2, 3);
        Check.due("would(0, 1)", net.would(0, 1), -2);
        Check.due("would(0, 0)", net.would(0, 0), -1);
        Check.due("would(0, 4)", net.would(0, 4), -1);
        Check.due("would(-1, 0)", net.would(-1, 0), -1);
        Check.dueRow("would: the row stays", net, 0, 1, 2, 3);
        Check.due("would(1, 0)", net.would(1, 0), -4);
        Check.dueRow("would(1, 0)", net, 0, 1);
        Check.due("would, then links", net.links(3, 1), 2);
    }

    private static void p14Kin() {
        SubjectNet net = diamond();
        int[][] due = {{2 + 4 + 16, 0, 31, 1}, {8, 1, 8 + 16 + 2, 3}, {8, 1, 4 + 8 + 16, 5}, {16, 6, 24, 15},
            {0, 9, 16, 31}, {0, 0, 32, 32}};
        for (int t = 0; t < 6; t++) {
            for (int what = 0; what < 4; what++) {
                String call = "kin(" + t + ", " + what + ")";
                Check.due(call, net.kin(t, what), due[t][what]);
                Check.dueRow(call, net, Integer.bitCount(due[t][what]));
            }
        }
        Check.due("kin(0, 4)", net.kin(0, 4), -1);
        Check.due("kin(0, -1)", net.kin(0, -1), -1);
        Check.due("kin(6, 0)", net.kin(6, 0), -1);
        Check.due("kin(-1, 2)", net.kin(-1, 2), -1);
        Check.due("kin(32, 2)", net.kin(32, 2), -1);
        Check.dueRow("kin: the row stays", net, 1);
    }

    private static void p15Way() {
        SubjectNet net = diamond();
        Check.due("way(0, 4)", net.way(0, 4), 2);
        Check.dueRow("way(0, 4)", net, 0, 4);
        Check.due("way(0, 3)", net.way(0, 3), 3);
        Check.dueRow("way(0, 3)", net, 0, 1, 3);
        net.unlinks(0, 1);
        Check.due("way(0, 3) over c", net.way(0, 3), 3);
        Check.dueRow("way(0, 3) over c", net, 0, 2, 3);
        Check.due("way(3, 0)", net.way(3, 0), -2);
        Check.due("way(0, 5)", net.way(0, 5), -2);
        Check.due("way(0, 0)", net.way(0, 0), -1);
        Check.due("way(0, 6)", net.way(0, 6), -1);
        Check.due("way(-1, 0)", net.way(-1, 0), -1);
        Check.dueRow("way: the row stays", net, 0, 2, 3);
        SubjectNet longer = Check.terms(8);
        Check.net(longer, "a>c,c>e,e>h,a>b,b>g,g>h,a>d,d>f,f>h,b>f");
        Check.due("way: the lesser at the first unlike place", longer.way(0, 7), 4);
        Check.dueRow("way: the lesser at the first unlike place", longer, 0, 1, 5, 7);
        SubjectNet line = Check.terms(24);
        for (int t = 23; t > 0; t--) {
            line.links(t, t - 1);
        }
        Check.due("way of 24", line.way(23, 0), 24);
        Check.due("way of 24, first", line.row(0), 23);
        Check.due("way of 24, last", line.row(23), 0);
        Check.due("depth at the end of 24", line.depth(0), 23);
        Check.dueRow("depth at the end of 24", line, 0);
        Check.due("chains of a line of 24", line.chains(), 1);
        Check.dueRow("chains of a line of 24", line, 24);
        line.unlinks(23, 22);
        line.links(0, 23);
        Check.due("way to term 23", line.way(1, 23), 3);
        Check.dueRow("way to term 23", line, 1, 0, 23);
    }

    private static void p16Ways() {
        SubjectNet back = Check.terms(3);
        Check.net(back, "c>b,b>a,c>a");
        Check.due("ways to term 0", back.ways(2, 0), 3);
        Check.dueRow("ways to term 0", back, 2);
        SubjectNet net = diamond();
        Check.due("ways(0, 4)", net.ways(0, 4), 4);
        Check.dueRow("ways(0, 4)", net, 3);
        Check.due("ways(0, 3)", net.ways(0, 3), 3);
        Check.dueRow("ways(0, 3)", net, 2);
        Check.due("ways(3, 4)", net.ways(3, 4), 2);
        Check.dueRow("ways(3, 4)", net, 1);
        Check.due("ways(4, 0)", net.ways(4, 0), -2);
        Check.due("ways(5, 0)", net.ways(5, 0), -2);
        Check.due("ways(5, 5)", net.ways(5, 5), -1);
        Check.due("ways(5, 6)", net.ways(5, 6), -1);
        Check.due("ways(MIN, 5)", net.ways(MIN, 5), -1);
        Check.dueRow("ways: the row stays", net, 1);
        SubjectNet all = Check.terms(24);
        for (int x = 0; x < 24; x++) {
            for (int y = x + 1; y < 24; y++) {
                all.links(x, y);
            }
        }
        Check.due("ways through all", all.ways(0, 23), 24);
        Check.dueRow("ways through all", all, 1 << 22);
    }

    private static void p17Between() {
        SubjectNet net = diamond();
        Check.due("between(0, 3)", net.between(0, 3), 15);
        Check.dueRow("between(0, 3)", net, 4);
        Check.due("between(0, 4)", net.between(0, 4), 31);
        Check.dueRow("between(0, 4)", net, 6);
        Check.due("between(3, 4)", net.between(3, 4), 24);
        Check.dueRow("between(3, 4)", net, 1);
        Check.due("between(4, 3)", net.between(4, 3), -2);
        Check.due("between(1, 2)", net.between(1, 2), -2);
        Check.due("between(1, 1)", net.between(1, 1), -1);
        Check.due("between(1, 7)", net.between(1, 7), -1);
        Check.due("between(33, 1)", net.between(33, 1), -1);
        Check.dueRow("between: the row stays", net, 1);
    }

    private static void p18Meets() {
        SubjectNet net = diamond();
        Check.due("meets(1, 2)", net.meets(1, 2), 1);
        Check.dueRow("meets(1, 2)", net, 1);
        Check.due("meets(3, 4)", net.meets(3, 4), 15);
        Check.dueRow("meets(3, 4)", net, 8);
        Check.due("meets(3, 3)", net.meets(3, 3), 15);
        Check.dueRow("meets(3, 3)", net, 8);
        Check.due("meets(1, 3)", net.meets(1, 3), 3);
        Check.dueRow("meets(1, 3)", net, 2);
        Check.due("meets(5, 3)", net.meets(5, 3), 0);
        Check.dueRow("meets(5, 3)", net, 0);
        net.links(1, 5);
        net.links(2, 5);
        Check.due("meets(3, 5)", net.meets(3, 5), 7);
        Check.dueRow("meets(3, 5): two are nearest", net, 6);
        Check.due("meets(0, 6)", net.meets(0, 6), -1);
        Check.due("meets(-1, 0)", net.meets(-1, 0), -1);
        Check.due("meets(6, 6)", net.meets(6, 6), -1);
        Check.dueRow("meets: the row stays", net, 6);
    }

    private static void p19Steps() {
        SubjectNet net = diamond();
        Check.due("steps(1, 2)", net.steps(1, 2), 2);
        Check.due("steps(4, 1)", net.steps(4, 1), 2);
        Check.due("steps(0, 3)", net.steps(0, 3), 2);
        Check.due("steps(3, 0)", net.steps(3, 0), 2);
        Check.due("steps(4, 0)", net.steps(4, 0), 1);
        Check.due("steps(5, 5)", net.steps(5, 5), 0);
        Check.due("steps(5, 0)", net.steps(5, 0), -2);
        Check.due("steps(5, 6)", net.steps(5, 6), -1);
        Check.due("steps(6, 6)", net.steps(6, 6), -1);
        Check.due("steps(-1, 0)", net.steps(-1, 0), -1);
        Check.due("steps(0, 32)", net.steps(0, 32), -1);
        Check.dueRow("steps tells no row", net, 0);
        SubjectNet line = Check.terms(24);
        for (int t = 0; t < 23; t++) {
            if (t % 2 == 0) {
                line.links(t, t + 1);
            } else {
                line.links(t + 1, t);
            }
        }
        Check.due("steps: 23 up and down", line.steps(0, 23), 23);
        Check.due("steps: 23 up and down, back", line.steps(23, 0), 23);
    }

    private static void p20Depth() {
        SubjectNet net = diamond();
        int[][] due = {{0, 3}, {1, 2}, {1, 2}, {2, 1}, {3, 0}, {0, 0}};
        for (int t = 0; t < 6; t++) {
            Check.due("depth(" + t + ")", net.depth(t), due[t][0]);
            Check.dueRow("depth(" + t + ")", net, due[t][1]);
        }
        SubjectNet back = Check.terms(3);
        Check.net(back, "c>b,b>a,c>a");
        Check.due("depth of term 0", back.depth(0), 2);
        Check.dueRow("depth of term 0", back, 0);
        Check.due("depth over term 0", back.depth(2), 0);
        Check.dueRow("depth over term 0", back, 2);
        Check.due("depth(6)", net.depth(6), -1);
        Check.due("depth(-1)", net.depth(-1), -1);
        Check.due("depth(32)", net.depth(32), -1);
        Check.dueRow("depth: the row stays", net, 0);
    }

    private static void p21Tops() {
        SubjectNet net = diamond();
        Check.due("tops", net.tops(), 33);
        Check.dueRow("tops", net, 48, 32);
        net.links(5, 0);
        Check.due("tops: all linked", net.tops(), 32);
        Check.dueRow("tops: all linked", net, 16, 0);
        SubjectNet none = new SubjectNet();
        Check.due("tops: no terms", none.tops(), 0);
        Check.dueRow("tops: no terms", none, 0, 0);
    }

    private static void p22Needless() {
        SubjectNet net = diamond();
        Check.due("needless", net.needless(), 1);
        Check.dueRow("needless", net, 4);
        net.links(0, 3);
        net.links(5, 0);
        net.links(5, 2);
        net.links(2, 4);
        Check.due("needless: more", net.needless(), 4);
        Check.dueRow("needless: more", net, 3, 4, 204, 502);
        Check.due("needless: a question", net.count(2), 10);
        SubjectNet back = Check.terms(3);
        Check.net(back, "c>b,b>a,c>a");
        Check.due("needless: to term 0", back.needless(), 1);
        Check.dueRow("needless: to term 0", back, 200);
        SubjectNet none = Check.terms(2);
        none.links(1, 0);
        none.tops();
        Check.due("needless: none", none.needless(), 0);
        Check.dueRow("needless: none", none);
        SubjectNet all = Check.terms(24);
        for (int x = 0; x < 24; x++) {
            for (int y = x + 1; y < 24; y++) {
                all.links(x, y);
            }
        }
        Check.due("needless: most", all.needless(), 253);
        Check.due("needless: most, count", all.count(6), 253);
        Check.due("needless: most, first", all.row(0), 2);
        Check.due("needless: most, last", all.row(252), 2123);
    }

    private static void p23Chains() {
        SubjectNet net = diamond();
        Check.due("chains", net.chains(), 3);
        Check.dueRow("chains", net, 4);
        SubjectNet none = new SubjectNet();
        Check.due("chains: no terms", none.chains(), 0);
        Check.dueRow("chains: no terms", none, 0);
        SubjectNet loose = Check.terms(3);
        Check.due("chains: loose ones", loose.chains(), 3);
        Check.dueRow("chains: loose ones", loose, 1);
        SubjectNet one = Check.terms(1);
        Check.due("chains: one term", one.chains(), 1);
        Check.dueRow("chains: one term", one, 1);
        SubjectNet cross = Check.terms(5);
        Check.net(cross, "a>c,b>c,c>d,c>e");
        Check.due("chains: over c two can pass", cross.chains(), 2);
        Check.dueRow("chains: over c two can pass", cross, 3);
        SubjectNet change = Check.terms(6);
        Check.net(change, "a>d,a>e,b>d,c>e,c>f,b>e");
        Check.due("chains: followers are changed", change.chains(), 3);
        Check.dueRow("chains: followers are changed", change, 2);
        SubjectNet comb = Check.terms(8);
        Check.net(comb, "a>e,a>f,b>e,b>g,c>f,c>h,d>e");
        Check.due("chains: over several changes", comb.chains(), 4);
    }

    /**
     * The fewest CHAINS are as many as the most TERMS of which none is below another: apart() tells those. Once with
     * the least numbers, once with the greatest ones and all others apart.
     */
    private static void p23ChainsOfManyShapes() {
        for (int shape = 0; shape < 60; shape++) {
            int first = shape % 2 == 0 ? 0 : 17;
            SubjectNet net = Check.terms(first + 7);
            int[] drawn = draws(1000 + shape, 24);
            for (int i = 0; i < 24; i += 2) {
                net.links(first + drawn[i] % 7, first + drawn[i + 1] % 7);
            }
            int most = 0;
            for (int set = 0; set < 128; set++) {
                if (net.apart(set << first) == 1) {
                    most = Math.max(most, Integer.bitCount(set));
                }
            }
            Check.due("chains of shape " + shape, net.chains(), first + most);
        }
    }

    private static void p24Apart() {
        SubjectNet net = diamond();
        Check.due("apart(b, c)", net.apart(6), 1);
        Check.dueRow("apart(b, c)", net, 0);
        Check.due("apart(a, d)", net.apart(9), 0);
        Check.dueRow("apart(a, d)", net, 1);
        Check.due("apart(all)", net.apart(63), 0);
        Check.dueRow("apart(all)", net, 9);
        Check.due("apart(none)", net.apart(0), 1);
        Check.dueRow("apart(none)", net, 0);
        Check.due("apart(f)", net.apart(32), 1);
        Check.due("apart: one is not there", net.apart(64), -1);
        Check.due("apart: one of several is not there", net.apart(127), -1);
        Check.due("apart(-1)", net.apart(-1), -1);
        Check.due("apart(MIN)", net.apart(MIN), -1);
        Check.due("apart(MAX)", net.apart(MAX), -1);
        Check.due("apart(1 << 24)", net.apart(1 << 24), -1);
        Check.dueRow("apart: the row stays", net, 0);
    }

    private static void p25Posts() {
        SubjectNet net = Check.terms(2);
        Check.due("posts(0, 1)", net.posts(0, 1), 1);
        Check.due("posts(39, 1)", net.posts(39, 1), 2);
        Check.due("posts(39, 1) again", net.posts(39, 1), -2);
        Check.due("posts(39, 0)", net.posts(39, 0), 1);
        Check.due("posts(32, 0)", net.posts(32, 0), 2);
        Check.due("posts(40, 0)", net.posts(40, 0), -1);
        Check.due("posts(-1, 0)", net.posts(-1, 0), -1);
        Check.due("posts(64, 1)", net.posts(64, 1), -1);
        Check.due("posts(0, 2)", net.posts(0, 2), -1);
        Check.due("posts(0, -1)", net.posts(0, -1), -1);
        Check.due("posts(0, 33)", net.posts(0, 33), -1);
        Check.due("posts: postings", net.count(4), 4);
        Check.due("posts: what can be undone", net.count(5), 6);
    }

    private static void p26Unposts() {
        SubjectNet net = Check.terms(2);
        net.posts(7, 0);
        net.posts(39, 0);
        net.posts(7, 1);
        Check.due("unposts(8, 0)", net.unposts(8, 0), -2);
        Check.due("unposts(39, 1)", net.unposts(39, 1), -2);
        Check.due("unposts(71, 0)", net.unposts(71, 0), -1);
        Check.due("unposts(40, 0)", net.unposts(40, 0), -1);
        Check.due("unposts(-1, 0)", net.unposts(-1, 0), -1);
        Check.due("unposts(7, 2)", net.unposts(7, 2), -1);
        Check.due("unposts(7, 32)", net.unposts(7, 32), -1);
        Check.due("unposts: refused, can't be undone", net.count(5), 5);
        Check.due("unposts(7, 0)", net.unposts(7, 0), 1);
        Check.due("unposts(7, 0) again", net.unposts(7, 0), -2);
        Check.due("unposts(39, 0)", net.unposts(39, 0), 0);
        Check.due("unposts: left", net.count(4), 1);
        Check.due("unposts: can be undone", net.count(5), 7);
    }

    private static SubjectNet library() {
        SubjectNet net = Check.terms(4);
        Check.net(net, "a>b,b>c");
        Check.label(net, "bb", 1);
        net.posts(1, 0);
        net.posts(5, 0);
        net.posts(5, 1);
        net.posts(39, 2);
        net.posts(2, 2);
        net.posts(1, 3);
        net.posts(39, 3);
        return net;
    }

    private static void p27Search() {
        SubjectNet net = library();
        Check.due("search: a", Check.search(net, "a"), 2);
        Check.dueRow("search: a", net, 1, 5);
        Check.due("search: the text is emptied", net.count(7), 0);
        Check.due("search: a*", Check.search(net, "a*"), 4);
        Check.dueRow("search: a*", net, 1, 2, 5, 39);
        Check.due("search: bb*", Check.search(net, "bb*"), 3);
        Check.dueRow("search: bb*", net, 2, 5, 39);
        Check.due("search: a+d", Check.search(net, "a+d"), 3);
        Check.dueRow("search: a+d", net, 1, 5, 39);
        Check.due("search: a&d", Check.search(net, "a&d"), 1);
        Check.dueRow("search: a&d", net, 1);
        Check.due("search: a*-d", Check.search(net, "a*-d"), 2);
        Check.dueRow("search: a*-d", net, 2, 5);
        Check.due("search: from the left", Check.search(net, "b+d&a"), 2);
        Check.dueRow("search: from the left", net, 1, 5);
        Check.due("search: from the left, -", Check.search(net, "d-a+a"), 3);
        Check.due("search: stars behind", Check.search(net, "d&a*"), 2);
        Check.dueRow("search: stars behind", net, 1, 39);
        Check.due("search: nothing", Check.search(net, "b&d"), 0);
        Check.dueRow("search: nothing", net);
        Check.due("search: a question", net.count(4), 7);
        net.posts(0, 3);
        Check.due("search: item 0", Check.search(net, "d"), 3);
        Check.dueRow("search: item 0", net, 0, 1, 39);
        net.unposts(0, 3);
        net.links(3, 0);
        net.posts(8, 0);
        Check.due("search: term 0 is below", Check.search(net, "d*-d"), 3);
        Check.dueRow("search: term 0 is below", net, 2, 5, 8);
        net.unposts(8, 0);
        net.keep(0);
        net.goes(0, 0);
        Check.due("search: term 0 is not there", Check.search(net, "d"), 2);
        Check.dueRow("search: term 0 is not there", net, 1, 39);
        net.again(0);
        net.unlinks(3, 0);
        Check.due("search: long", Check.search(net, "a+a+a+a+a+a+a+a+a+a+a+a+a+a+a+a+a+a+a+a"
            + "+a+a+a+a+a+a+a+a+a+a+a+a+a+a+a+a+a+a+d*"), 3);
    }

    private static void p27WrongTexts() {
        SubjectNet net = library();
        net.tops();
        String[] texts = {"", "*", "x", "a**", "a+", "a*-", "a+x", "a+bx", "aa", "a b", "a>b", "a+-b", "+a", "bbb",
            "a*b", "a+bb*x", "a+1", "a,b"};
        int[] signs = {0, 0, 0, 2, 2, 3, 2, 2, 0, 1, 1, 2, 0, 2, 2, 5, 2, 1};
        for (int i = 0; i < texts.length; i++) {
            Check.due("search: " + texts[i], Check.search(net, texts[i]), -1 - signs[i]);
            Check.due("search: " + texts[i] + ": emptied", net.count(7), 0);
            Check.dueRow("search: " + texts[i] + ": row", net, 12, 8);
        }
    }

    private static void p28Posted() {
        SubjectNet net = library();
        Check.due("posted(1)", net.posted(1), 9);
        Check.dueRow("posted(1)", net, 0);
        Check.due("posted(5)", net.posted(5), 3);
        Check.dueRow("posted(5)", net, 1);
        Check.due("posted(39)", net.posted(39), 12);
        Check.dueRow("posted(39)", net, 0);
        net.posts(39, 0);
        Check.due("posted(39), above", net.posted(39), 13);
        Check.dueRow("posted(39), above", net, 1);
        Check.due("posted(3)", net.posted(3), 0);
        Check.dueRow("posted(3)", net, 0);
        net.posted(5);
        Check.due("posted(40)", net.posted(40), -1);
        Check.due("posted(-1)", net.posted(-1), -1);
        Check.due("posted(65)", net.posted(65), -1);
        Check.dueRow("posted: the row stays", net, 1);
    }

    private static void p29Goes() {
        SubjectNet net = diamond();
        net.posts(3, 3);
        net.posts(4, 3);
        net.posts(4, 2);
        net.posts(9, 2);
        Check.due("goes(3, 1)", net.goes(3, 1), 5);
        Check.due("goes(3, 1): terms", net.count(1), 55);
        Check.due("goes(3, 1): b > e", net.kin(1, 0), 16);
        Check.due("goes(3, 1): c > e", net.kin(2, 0), 16);
        Check.due("goes(3, 1): links", net.count(2), 5);
        Check.due("goes(3, 1): items", net.count(4), 5);
        Check.due("goes(3, 1): own items stay", net.posted(9), 4);
        Check.due("goes(3, 1): posted(3)", net.posted(3), 6);
        Check.due("goes(3, 1): posted(4)", net.posted(4), 6);
        Check.due("goes(3, 1): labels", net.count(3), 5);
        Check.due("goes(3, 1): its label", Check.named(net, "d"), -100);
        Check.dueOrder("goes(3, 1)", net, 0, 1, 2, 4, 5);
        Check.due("goes(1, 0)", net.goes(1, 0), 4);
        Check.due("goes(1, 0): links", net.count(2), 3);
        Check.due("goes(1, 0): items", net.count(4), 3);
        Check.due("goes(2, 1): there already", net.goes(2, 1), 3);
        Check.due("goes(2, 1): links", net.count(2), 1);
        Check.due("goes(2, 1): items of the heir", net.posted(3), 1);
        Check.due("goes(0, 2)", net.goes(0, 2), -1);
        Check.due("goes(0, -1)", net.goes(0, -1), -1);
        Check.due("goes(1, 1)", net.goes(1, 1), -1);
        Check.due("goes(24, 1)", net.goes(24, 1), -1);
        Check.due("goes(32, 0)", net.goes(32, 0), -1);
        Check.due("goes(0, 1): without broader ones", net.goes(0, 1), 2);
        Check.due("goes(0, 1): items went", net.count(4), 0);
        Check.due("goes: a new term has nothing of it", Check.term(net, "w"), 0);
        Check.due("goes: a new term has no links", net.kin(0, 2), 1);
        Check.dueOrder("goes: a new term", net, 4, 5, 0);
    }

    private static void p30Merges() {
        SubjectNet net = diamond();
        net.posts(1, 1);
        net.posts(1, 2);
        net.posts(2, 2);
        net.posts(8, 1);
        Check.due("merges(0, 3)", net.merges(0, 3), -4);
        Check.dueRow("merges(0, 3)", net, 0, 1, 3);
        Check.due("merges(3, 0)", net.merges(3, 0), -4);
        Check.dueRow("merges(3, 0)", net, 0, 1, 3);
        Check.due("merges(0, 4): over others, not straight", net.merges(0, 4), -4);
        Check.dueRow("merges(0, 4): over others, not straight", net, 0, 1, 3, 4);
        Check.due("merges(1, 1)", net.merges(1, 1), -1);
        Check.due("merges(1, 6)", net.merges(1, 6), -1);
        Check.due("merges(-1, 1)", net.merges(-1, 1), -1);
        Check.due("merges(1, 33)", net.merges(1, 33), -1);
        Check.dueRow("merges: the row stays", net, 0, 1, 3, 4);
        Check.due("merges(1, 2)", net.merges(1, 2), 5);
        Check.due("merges(1, 2): terms", net.count(1), 59);
        Check.due("merges(1, 2): links", net.count(2), 4);
        Check.due("merges(1, 2): items", net.count(4), 3);
        Check.due("merges(1, 2): own items stay", net.posted(8), 2);
        Check.due("merges(1, 2): label", Check.named(net, "c"), 1);
        Check.due("merges(1, 2): labels stay", net.count(3), 6);
        Check.due("merges(3, 1): straight from y to x", net.merges(3, 1), 4);
        Check.due("merges(3, 1): above", net.kin(3, 1), 1);
        Check.due("merges(3, 1): below", net.kin(3, 0), 16);
        Check.due("merges(3, 1): items", net.posted(2), 8);
        Check.due("merges(3, 1): labels", net.labels(3), 3);
        Check.dueRow("merges(3, 1): labels", net, 128, 64, 96);
        Check.due("merges(5, 3): not linked", net.merges(5, 3), 3);
        Check.due("merges(5, 3): above", net.kin(5, 1), 1);
        Check.due("merges(5, 3): below", net.kin(5, 0), 16);
        Check.dueOrder("merges(5, 3)", net, 0, 5, 4);
        Check.due("merges(0, 5): straight from x to y", net.merges(0, 5), 2);
        Check.due("merges(0, 5): links", net.count(2), 1);
    }

    private static void p30MergesAndTheOrder() {
        SubjectNet net = Check.terms(6);
        net.links(2, 0);
        net.links(2, 1);
        net.links(4, 2);
        Check.dueOrder("merger: ahead", net, 4, 2, 1, 3, 0, 5);
        Check.due("merger", net.merges(3, 2), 5);
        Check.dueOrder("merger: y's place goes, then narrower ones, then broader ones", net, 4, 3, 1, 0, 5);
        Check.due("merger: links", net.count(2), 3);
        Check.due("merger into the last", net.merges(5, 3), 4);
        Check.dueOrder("merger into the last", net, 4, 5, 1, 0);
    }

    private static void p31Thins() {
        SubjectNet net = diamond();
        net.links(0, 3);
        Check.due("thins", net.thins(), 2);
        Check.due("thins: links", net.count(2), 5);
        Check.due("thins: all ways stay", net.kin(0, 2), 31);
        Check.due("thins: none are left", net.needless(), 0);
        int undo = net.count(5);
        Check.due("thins: none", net.thins(), -2);
        Check.due("thins: none can't be undone", net.count(5), undo);
        net.undo();
        Check.due("thins: undone", net.count(2), 7);
        SubjectNet all = Check.terms(6);
        for (int x = 0; x < 6; x++) {
            for (int y = x + 1; y < 6; y++) {
                all.links(x, y);
            }
        }
        Check.due("thins: of all", all.thins(), 10);
        Check.due("thins: a line is left", all.way(0, 5), 6);
    }

    private static void p32Day() {
        SubjectNet net = Check.terms(5);
        Check.due("day: empty", Check.day(net, ""), 0);
        Check.dueRow("day: empty", net, 0, 0);
        Check.due("day: links", Check.day(net, "l0001l0102l0002"), 3);
        Check.dueRow("day: links", net, 0, 3);
        Check.due("day: the text is emptied", net.count(7), 0);
        Check.due("day: t, u, p", Check.day(net, "tu0102p3902p0003"), 4);
        Check.dueRow("day: t, u, p", net, 0, 1);
        Check.due("day: item 39 is of c", net.posted(39), 4);
        Check.due("day: item 0 is of d", net.posted(0), 8);
        Check.due("day: m, g", Check.day(net, "m0302g010g041"), 3);
        Check.dueRow("day: m, g", net, 0, 0);
        Check.due("day: m, g: terms", net.count(1), 9);
        Check.due("day: m, g: labels", Check.named(net, "c"), 3);
        Check.due("day: till one can't be", Check.day(net, "l0003l0300l0003"), 1);
        Check.dueRow("day: till one can't be", net, 1, 1);
        Check.due("day: t without needless ones", Check.day(net, "t"), 0);
        Check.dueRow("day: t without needless ones", net, 1, 1);
        Check.due("day: there already can't be", Check.day(net, "l0003"), 0);
        Check.due("day: no such term", Check.day(net, "p0005l9999"), 0);
        Check.due("day: heirs of 2", Check.day(net, "g002"), 0);
        Check.dueRow("day: heirs of 2", net, 1, 1);
        Check.due("day: what can be undone", net.count(5), 8);
        Check.due("day: undone as one", net.undo(), 7);
        Check.due("day: undone as one, links", net.count(2), 0);
        Check.due("day: undone as one once more", net.undo(), 6);
        Check.due("day: undone as one once more, terms", net.count(0), 5);
        Check.due("day: 16 acts", Check.day(net, "p0000p0100p0200p0300p0400p0500p0600p0700"
            + "p0800p0900p1000p1100p1200p1300p1400p1500"), 16);
        Check.due("day: 80 acts", Check.day(net, "t".repeat(80)), 0);
        Check.dueRow("day: 80 acts", net, 1, 1);
        Check.due("day: heirs", Check.day(net, "u0001l0001l0102g011"), 4);
        Check.due("day: heirs are linked", net.kin(0, 0), 4);
    }

    private static void p32WrongTexts() {
        SubjectNet net = Check.terms(3);
        net.tops();
        String[] texts = {"x", "l", "l0", "l00", "l0001l", "l0001l000", "l00 1", "l000:", "l/001", "g00", "g0010",
            "g0000", "ut", "L0001", "l0001,l0102", "tt0", "p0001m", "l-101", "\u0000"};
        int[] signs = {0, 1, 2, 3, 6, 9, 3, 4, 1, 3, 4, 4, 1, 0, 5, 2, 6, 1, 0};
        for (int i = 0; i < texts.length; i++) {
            Check.due("day: " + texts[i], Check.day(net, texts[i]), -1 - signs[i]);
            Check.due("day: " + texts[i] + ": emptied", net.count(7), 0);
            Check.due("day: " + texts[i] + ": nothing done", net.count(2) + net.count(4), 0);
            Check.dueRow("day: " + texts[i] + ": row", net, 7, 7);
        }
        Check.due("day: wrong ones can't be undone", net.count(5), 3);
    }

    private static void p33Undo() {
        SubjectNet net = Check.terms(3);
        Check.label(net, "x", 2);
        net.links(2, 0);
        net.posts(4, 2);
        net.unposts(4, 2);
        net.unlinks(2, 0);
        Check.due("undo: 8 are kept", net.count(5), 8);
        net.posts(9, 1);
        Check.due("undo: the latest 8 are kept", net.count(5), 8);
        Check.due("undo posts", net.undo(), 7);
        Check.due("undo posts: items", net.count(4), 0);
        Check.due("undo unlinks", net.undo(), 6);
        Check.due("undo unlinks: links", net.kin(2, 0), 1);
        Check.due("undo unposts", net.undo(), 5);
        Check.due("undo unposts: items", net.posted(4), 4);
        Check.due("undo posts", net.undo(), 4);
        Check.due("undo links", net.undo(), 3);
        Check.dueOrder("undo links: order", net, 0, 1, 2);
        Check.due("undo label", net.undo(), 2);
        Check.due("undo label: labels", net.count(3), 3);
        Check.due("undo term", net.undo(), 1);
        Check.due("undo term: terms", net.count(1), 3);
        Check.due("undo term", net.undo(), 0);
        Check.due("undo: the first is beyond the 8", net.count(1), 1);
        Check.due("undo: none", net.undo(), -1);
        Check.due("undo: none changes nothing", net.count(1), 1);
        SubjectNet big = diamond();
        big.posts(8, 3);
        int links = big.count(2);
        big.goes(3, 1);
        big.merges(0, 1);
        big.thins();
        big.undo();
        big.undo();
        big.undo();
        Check.due("undo: goes, merges, thins: links", big.count(2), links);
        Check.due("undo: goes: item", big.posted(8), 8);
        Check.due("undo: goes: label", Check.named(big, "d"), 3);
        Check.dueOrder("undo: goes: order", big, 0, 1, 2, 3, 4, 5);
        big.undo();
        Check.due("undo net as one", big.undo(), 3);
        Check.due("undo net as one: links", big.count(2), 0);
    }

    /** Many more changes than are kept: each of the latest 8 must still be its own. */
    private static void p33UndoOfTheLatestOfMany() {
        SubjectNet net = Check.terms(1);
        int has = 0;
        for (int round = 0; round < 3; round++) {
            for (int i = 0; i < 13; i++) {
                Check.due("undo of many: posts", net.posts(has, 0), has + 1);
                Check.due("undo of many: refused in between", net.posts(has, 0), -2);
                has++;
            }
            for (int left = 7; left >= 0; left--) {
                has--;
                Check.due("undo of many, round " + round, net.undo(), left);
                Check.due("undo of many, round " + round + ": postings", net.count(4), has);
                Check.due("undo of many, round " + round + ": the item", net.posted(has), 0);
                Check.due("undo of many, round " + round + ": the one before", net.posted(has - 1), 1);
            }
            Check.due("undo of many, round " + round + ": none left", net.undo(), -1);
            Check.due("undo of many, round " + round + ": none left, postings", net.count(4), has);
        }
    }

    /** Each kind of change alone behind a question that is not undone, a refused one, and an undone one. */
    private static void p33UndoOfEachKind() {
        for (int kind = 0; kind < 11; kind++) {
            SubjectNet net = diamond();
            net.posts(5, 4);
            net.posts(6, 3);
            net.unlinks(0, 0);
            net.unposts(5, 4);
            net.undo();
            String was = told(net);
            net.posts(7, 0);
            String then = told(net);
            change(net, kind);
            Check.due("undo of kind " + kind, told(net).equals(then), false);
            Check.due("undo of kind " + kind + ": can be", net.count(5), 8);
            Check.due("undo of kind " + kind + ": left", net.undo(), 7);
            Check.due("undo of kind " + kind + ": as it was", told(net).equals(then), true);
            net.undo();
            Check.due("undo of kind " + kind + ": once more", told(net).equals(was), true);
        }
    }

    private static void change(SubjectNet net, int kind) {
        switch (kind) {
            case 0: Check.term(net, "w"); break;
            case 1: Check.label(net, "w", 1); break;
            case 2: net.links(5, 0); break;
            case 3: net.unlinks(0, 1); break;
            case 4: Check.net(net, "f>a"); break;
            case 5: net.posts(8, 2); break;
            case 6: net.unposts(5, 4); break;
            case 7: net.goes(3, 1); break;
            case 8: net.merges(1, 2); break;
            case 9: net.thins(); break;
            default: Check.day(net, "l0500g031"); break;
        }
    }

    /** All that 1. of the document tells of, but items above 8, as a text. */
    private static String told(SubjectNet net) {
        StringBuilder all = new StringBuilder();
        for (int t = 0; t < 7; t++) {
            all.append(Check.placed(net, t)).append(' ').append(net.kin(t, 0)).append(' ');
            int labels = net.labels(t);
            for (int i = 0; i < labels; i++) {
                all.append(net.row(i)).append(',');
            }
        }
        for (int item = 0; item < 9; item++) {
            all.append(' ').append(net.posted(item));
        }
        return all.toString();
    }

    private static void p33WhatIsNotUndone() {
        SubjectNet net = Check.terms(2);
        net.tops();
        net.sign(0x61626364);
        net.keep(0);
        net.years(3, 60);
        net.would(0, 1);
        Check.due("undo: questions don't count", net.count(5), 2);
        Check.due("undo", net.undo(), 1);
        Check.due("undo: the text stays", net.count(7), 4);
        Check.dueRow("undo: the row stays", net, 0, 1);
        Check.due("undo: keep stays", net.again(0), true);
        Check.due("again: both are back", net.count(0), 2);
        Check.due("again: forgets", net.count(5), 0);
        Check.due("again: nothing to undo", net.undo(), -1);
        net.links(0, 1);
        Check.due("again(1): refused", net.again(1), false);
        Check.due("again: refused forgets nothing", net.count(5), 1);
        Check.due("undo: then", net.undo(), 0);
        Check.due("undo: then, links", net.count(2), 0);
        net.links(1, 0);
        net.undo();
        net.links(0, 1);
        Check.due("undo: a change behind an undone one", net.undo(), 0);
        Check.due("undo: a change behind an undone one, links", net.count(2), 0);
        Check.dueOrder("undo: a change behind an undone one, order", net, 0, 1);
        net.posts(1, 0);
        net.undo();
        net.posts(2, 0);
        net.posts(3, 0);
        Check.due("undo: two changes behind an undone one", net.undo(), 1);
        Check.due("undo: the first of them stays", net.posted(2), 1);
        Check.due("undo: the second of them went", net.posted(3), 0);
    }

    /** The draws as the document tells them, by longs. */
    private static int[] draws(int seed, int n) {
        int[] drawn = new int[n];
        long r = seed;
        for (int i = 0; i < n; i++) {
            r = r * 1103515245L + 12345L & 0xffffffffL;
            drawn[i] = (int) (r / 65536 % 24);
        }
        return drawn;
    }

    private static void p34Years() {
        int[] seeds = {0, 1, -1, 77, MIN, MAX, 123456789};
        for (int seed : seeds) {
            SubjectNet net = Check.terms(24);
            SubjectNet byHand = Check.terms(24);
            int came = 0;
            int rings = 0;
            int[] drawn = draws(seed, 120);
            for (int i = 0; i < 120; i += 2) {
                int answer = byHand.links(drawn[i], drawn[i + 1]);
                came += answer >= 0 ? 1 : 0;
                rings += answer == -4 ? 1 : 0;
            }
            int unlike = 0;
            for (int t = 0; t < 24; t++) {
                unlike += byHand.place(t) != t ? 1 : 0;
            }
            Check.due("years(" + seed + ", 60)", net.years(seed, 60), came);
            Check.dueRow("years(" + seed + ", 60)", net, rings, unlike);
            Check.due("years: it is forgotten", net.count(2), 0);
            Check.due("years: nothing to undo", net.count(5), 8);
            Check.due("years: order is as it was", Check.placeOf(net, 23), 23);
            Check.due("years(" + seed + ", 1)", net.years(seed, 1), drawn[0] == drawn[1] ? 0 : 1);
        }
        SubjectNet net = Check.terms(2);
        net.years(5, 60);
        int[] due = {(int) net.row(0), (int) net.row(1)};
        Check.due("years(5, 0)", net.years(5, 0), -1);
        Check.due("years(5, 61)", net.years(5, 61), -1);
        Check.due("years(5, -1)", net.years(5, -1), -1);
        Check.due("years(5, MAX)", net.years(5, MAX), -1);
        Check.dueRow("years: the row stays", net, due[0], due[1]);
        SubjectNet none = new SubjectNet();
        Check.due("years: no terms", none.years(1, 60), 0);
        Check.dueRow("years: no terms", none, 0, 0);
    }

    private static void p35Keep() {
        SubjectNet net = diamond();
        net.posts(6, 1);
        Check.label(net, "x", 4);
        Check.due("keep(2)", net.keep(2), false);
        Check.due("keep(-1)", net.keep(-1), false);
        Check.due("keep(0)", net.keep(0), true);
        net.goes(4, 0);
        net.links(5, 0);
        Check.due("keep(1)", net.keep(1), true);
        Check.due("keep: the net goes on", net.count(0), 5);
        net.again(0);
        Check.due("keep: terms", net.count(1), 63);
        Check.due("keep: links", net.count(2), 6);
        Check.due("keep: labels", Check.named(net, "x"), 4);
        Check.due("keep: items", net.posted(6), 2);
        Check.dueOrder("keep: order", net, 0, 1, 2, 3, 4, 5);
        net.again(1);
        Check.dueOrder("keep: order of the other", net, 5, 0, 1, 2, 3);
        Check.due("keep anew", net.keep(0), true);
        net.goes(0, 0);
        net.again(0);
        Check.dueOrder("keep anew", net, 5, 0, 1, 2, 3);
    }

    private static void p36Again() {
        SubjectNet net = Check.terms(2);
        net.tops();
        Check.due("again(0), nothing kept", net.again(0), false);
        Check.due("again(2)", net.again(2), false);
        Check.due("again(-1)", net.again(-1), false);
        net.keep(0);
        Check.due("again(1), nothing kept there", net.again(1), false);
        Check.due("again: refused ones forget nothing", net.count(5), 2);
        net.links(1, 0);
        net.sign(0);
        Check.due("again(0)", net.again(0), true);
        Check.due("again: links", net.count(2), 0);
        Check.due("again: the text is not of it", net.count(7), 4);
        Check.dueRow("again: the row is not of it", net, 3, 3);
        Check.due("again: nothing to undo", net.count(5), 0);
        net.links(0, 1);
        Check.due("again: changes don't reach what is kept", net.again(0), true);
        Check.due("again: once more", net.count(2), 0);
        net.keep(1);
        net.goes(0, 0);
        net.goes(1, 0);
        Check.due("again(1)", net.again(1), true);
        Check.due("again(1): terms", net.count(0), 2);
    }

    private static void p37Count() {
        SubjectNet net = library();
        Check.label(net, "zz", 3);
        net.goes(0, 0);
        net.needless();
        net.tops();
        net.sign(0);
        int[] due = {3, 14, 1, 5, 5, 8, 2, 4};
        for (int what = 0; what < due.length; what++) {
            Check.due("count(" + what + ")", net.count(what), due[what]);
        }
        int[] wrong = {8, -1, MIN, MAX};
        for (int what : wrong) {
            Check.due("count(" + what + ")", net.count(what), -1);
        }
        Check.due("count(1), all", Check.terms(24).count(1), (1 << 24) - 1);
    }

    private static void p38Row() {
        SubjectNet net = Check.terms(3);
        net.would(2, 0);
        Check.dueRow("row", net, 2, 1, 0);
        net.tops();
        Check.dueRow("row: a shorter one leaves nothing of the longer", net, 7, 7);
        int[] wrong = {2, 3, -1, MIN, MAX, 276};
        for (int i : wrong) {
            boolean threw = false;
            try {
                net.row(i);
            } catch (java.util.NoSuchElementException e) {
                threw = true;
            }
            Check.due("row(" + i + ") throws", threw, true);
        }
    }

    private static void theRowStaysWithAnswersBelow0() {
        SubjectNet net = diamond();
        net.would(5, 0);
        Check.dueRow("would", net, 5, 0, 1, 2, 3, 4);
        Check.term(net, "a");
        Check.label(net, "a", 9);
        Check.named(net, "zz");
        Check.net(net, "a>");
        Check.search(net, "q");
        Check.day(net, "q");
        net.links(0, 1);
        net.unlinks(0, 5);
        net.posts(0, 9);
        net.unposts(0, 0);
        net.goes(9, 0);
        net.merges(0, 0);
        net.steps(0, 5);
        net.keep(7);
        net.again(7);
        net.years(0, 0);
        Check.dueRow("the row stays", net, 5, 0, 1, 2, 3, 4);
        Check.term(net, "z");
        Check.label(net, "y", 0);
        Check.named(net, "y");
        net.unlinks(0, 4);
        net.posts(0, 0);
        net.unposts(0, 0);
        net.goes(5, 0);
        net.merges(1, 2);
        net.steps(0, 1);
        net.links(0, 4);
        net.thins();
        net.undo();
        net.keep(0);
        net.again(0);
        net.count(0);
        net.place(0);
        net.at(0);
        Check.dueRow("the row stays with calls that tell none", net, 5, 0, 1, 2, 3, 4);
    }
}
