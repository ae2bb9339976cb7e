/** Nets that tests begin with. Each has the text "qx" and, but for the empty one, a ROW of its own. */
final class Nets {
    private Nets() {
    }

    static SubjectNet empty() {
        SubjectNet net = new SubjectNet();
        Check.text(net, "qx");
        return net;
    }

    /** TERMS 0, 1, 3 .. 6 (2 has gone): f > a > b > d > e, a > e, a > d; g apart; more than 8 changes, one kept. */
    static SubjectNet few() {
        SubjectNet net = Check.terms(7);
        Check.net(net, "f>a,a>b,a>c,b>d,c>d,d>e,a>e");
        Check.label(net, "aa", 0);
        Check.label(net, "z", 3);
        net.posts(0, 0);
        net.posts(39, 4);
        net.posts(5, 4);
        net.posts(5, 1);
        net.keep(1);
        net.goes(2, 1);
        net.way(5, 4);
        Check.text(net, "qx");
        return net;
    }

    /** 24 TERMS in one line from 23 down to 0, 40 LABELS, 40 ITEMS at TERM 7; both numbers kept. */
    static SubjectNet full() {
        SubjectNet net = Check.terms(24);
        for (int i = 0; i < 16; i++) {
            Check.label(net, "z" + (char) ('a' + i), i);
        }
        for (int t = 23; t > 0; t--) {
            net.links(t, t - 1);
        }
        net.keep(1);
        for (int item = 0; item < 40; item++) {
            net.posts(item, 7);
        }
        net.keep(0);
        net.way(23, 0);
        Check.text(net, "qx");
        return net;
    }

    /** Behind changes that were undone. */
    static SubjectNet undone() {
        SubjectNet net = few();
        net.links(6, 5);
        net.merges(1, 0);
        net.undo();
        net.undo();
        net.undo();
        net.labels(0);
        return net;
    }

    /** As it was kept, with nothing to undo. */
    static SubjectNet returned() {
        SubjectNet net = few();
        net.keep(0);
        net.goes(5, 0);
        net.again(1);
        net.tops();
        return net;
    }

    /** 24 TERMS, each linked to all that have greater numbers. */
    static SubjectNet dense() {
        SubjectNet net = Check.terms(24);
        for (int x = 0; x < 24; x++) {
            for (int y = x + 1; y < 24; y++) {
                net.links(x, y);
            }
        }
        return net;
    }

    /** 24 TERMS, each linked to the next. */
    static SubjectNet line() {
        SubjectNet net = Check.terms(24);
        for (int t = 0; t < 23; t++) {
            net.links(t, t + 1);
        }
        return net;
    }
}
