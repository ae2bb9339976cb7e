import java.util.NoSuchElementException;

/** What the tests share: comparing answers, and texts told to a SubjectNet sign by sign. */
final class Check {
    private static int wrong = 0;
    private static int asked = 0;
    private static char tail = 0;

    private Check() {
    }

    static void due(String what, long got, long want) {
        asked++;
        if (got != want) {
            wrong++;
            System.out.println(Document.quoted(what) + " answered " + got + ", due is " + want);
        }
    }

    static int asked() {
        return asked;
    }

    static void due(String what, boolean got, boolean want) {
        due(what, got ? 1 : 0, want ? 1 : 0);
    }

    /** The whole ROW, and that there is nothing behind or ahead of it. */
    static void dueRow(String what, SubjectNet net, long... want) {
        due(what + ": numbers of the row", net.count(6), want.length);
        for (int i = 0; i < want.length; i++) {
            due(what + ": row(" + i + ")", number(net, i), want[i]);
        }
        due(what + ": row behind its end", throwsNoSuch(net, want.length), true);
        due(what + ": row(-1)", throwsNoSuch(net, -1), true);
    }

    static long number(SubjectNet net, int i) {
        try {
            return net.row(i);
        } catch (NoSuchElementException e) {
            return Long.MIN_VALUE;
        }
    }

    private static boolean throwsNoSuch(SubjectNet net, int i) {
        try {
            net.row(i);
            return false;
        } catch (NoSuchElementException e) {
            return true;
        }
    }

    /** ORDER, place by place, by both questions for it. */
    static void dueOrder(String what, SubjectNet net, int... want) {
        due(what + ": terms", net.count(0), want.length);
        for (int p = 0; p < want.length; p++) {
            due(what + ": at(" + p + ")", placed(net, p), want[p]);
            due(what + ": place(" + want[p] + ")", placeOf(net, want[p]), p);
        }
        due(what + ": at() behind all", placed(net, want.length), Long.MIN_VALUE);
    }

    static long placed(SubjectNet net, int place) {
        try {
            return net.at(place);
        } catch (NoSuchElementException e) {
            return Long.MIN_VALUE;
        }
    }

    static long placeOf(SubjectNet net, int t) {
        try {
            return net.place(t);
        } catch (NoSuchElementException e) {
            return Long.MIN_VALUE;
        }
    }

    /** Which sign texts are told with behind their end, ahead of being cut there: it must not matter. */
    static void tails(char sign) {
        tail = sign;
    }

    /** THE TEXT is this one afterwards, whatever it was. */
    static void text(SubjectNet net, String text) {
        net.end(0);
        for (int i = 0; i < text.length() + 1 && i < 80; i += 4) {
            int v = 0;
            for (int k = 0; k < 4; k++) {
                v = v << 8 | (i + k < text.length() ? text.charAt(i + k) : tail);
            }
            net.sign(v);
        }
        net.end(text.length());
    }

    static int term(SubjectNet net, String text) {
        text(net, text);
        return net.term();
    }

    static int label(SubjectNet net, String text, int t) {
        text(net, text);
        return net.label(t);
    }

    static int named(SubjectNet net, String text) {
        text(net, text);
        return net.named();
    }

    static int net(SubjectNet net, String text) {
        text(net, text);
        return net.net();
    }

    static int search(SubjectNet net, String text) {
        text(net, text);
        return net.search();
    }

    static int day(SubjectNet net, String text) {
        text(net, text);
        return net.day();
    }

    /** A net of n TERMS with the LABELS a, b, .. */
    static SubjectNet terms(int n) {
        SubjectNet net = new SubjectNet();
        for (int t = 0; t < n; t++) {
            term(net, String.valueOf((char) ('a' + t)));
        }
        return net;
    }

    static void finish(String name) {
        System.out.println(name + ": " + asked + " answers, " + wrong + " not as due");
        if (wrong != 0) {
            System.exit(1);
        }
    }
}
