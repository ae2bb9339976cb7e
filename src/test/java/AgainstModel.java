import java.util.NoSuchElementException;
import java.util.Random;

/** Random runs of calls, each answered by SubjectNet and by the plain model alike. */
public final class AgainstModel {
    private static final long THREW = Long.MIN_VALUE;
    private static final int CALLS = 512;
    private static final int RUNS = 3000;

    private final Random random;
    private final int run;
    private final SubjectNet net = new SubjectNet();
    private final Model model = new Model();
    private final int mostTerms;
    /** Runs of this kind begin with 24 TERMS, of which those with the greatest numbers stay, and draw those. */
    private final boolean high;
    private int calls = 0;

    private AgainstModel(int run) {
        this.run = run;
        random = new Random(run);
        int[] sizes = {3, 5, 7, 9, 12, 24};
        mostTerms = sizes[run % sizes.length];
        high = run / sizes.length % 3 == 2;
    }

    public static void main(String[] args) {
        for (int run = 0; run < RUNS; run++) {
            new AgainstModel(run).go();
        }
        Check.finish("AgainstModel");
    }

    private void go() {
        if (high) {
            fillUp();
        }
        while (calls < CALLS - 150) {
            if (random.nextInt(40) == 0) {
                compareAll();
            } else {
                oneCall();
            }
        }
        compareAll();
    }

    /** To 24 TERMS and, in every other run, 40 LABELS; then the TERMS with the least numbers go. */
    private void fillUp() {
        for (int t = 0; t < 24; t++) {
            tell(String.valueOf((char) ('a' + t)));
            same("term()", m -> m ? model.term() : net.term());
        }
        int more = random.nextBoolean() ? 16 : random.nextInt(16);
        for (int i = 0; i < more; i++) {
            int t = drawnTerm();
            tell("" + (char) ('a' + i) + 'a');
            same("label(" + t + ")", m -> m ? model.label(t) : net.label(t));
        }
        for (int t = 0; t < 24 - mostTerms; t++) {
            int k = t;
            same("goes(" + k + ", 0)", m -> m ? model.goes(k, 0) : net.goes(k, 0));
        }
    }

    // ---- what is asked

    private interface Call {
        long of(boolean model);
    }

    private long answer(Call call, boolean ofModel) {
        try {
            return call.of(ofModel);
        } catch (NoSuchElementException e) {
            return THREW;
        }
    }

    private long same(String what, Call call) {
        calls++;
        long want = answer(call, true);
        Check.due("run " + run + ", call " + calls + ": " + what, answer(call, false), want);
        return want;
    }

    private int ask(String what, Call call) {
        long answer = same(what, call);
        if (random.nextInt(3) == 0 || answer == -4) {
            compareRow(what);
        }
        return (int) answer;
    }

    private void compareRow(String what) {
        int many = (int) same(what + ", count(6)", m -> m ? model.count(6) : net.count(6));
        for (int i = 0; i < Math.min(many + 1, 12); i++) {
            int k = many < 12 || i == 0 ? i : i == 1 ? many : random.nextInt(many);
            same(what + ", row(" + k + ")", m -> m ? model.row(k) : net.row(k));
        }
    }

    private void compareAll() {
        for (int what = 0; what < 9; what++) {
            int k = what;
            same("count(" + k + ")", m -> m ? model.count(k) : net.count(k));
        }
        for (int p = 0; p < model.count(0) + 1; p++) {
            int k = p;
            int t = (int) same("at(" + k + ")", m -> m ? model.at(k) : net.at(k));
            same("kin(" + t + ", 0)", m -> m ? model.kin(t, 0) : net.kin(t, 0));
        }
        for (int i = 0; i < 4; i++) {
            int item = anyItem();
            same("posted(" + item + ")", m -> m ? model.posted(item) : net.posted(item));
        }
        int t = anyTerm();
        same("labels(" + t + ")", m -> m ? model.labels(t) : net.labels(t));
        compareRow("labels(" + t + ")");
    }

    // ---- what is drawn

    private int anyTerm() {
        if (random.nextInt(25) == 0) {
            int[] odd = {-1, 24, 25, 31, 32, 33, -32, Integer.MAX_VALUE, Integer.MIN_VALUE};
            return odd[random.nextInt(odd.length)];
        }
        return random.nextInt(12) == 0 ? random.nextInt(24) : drawnTerm();
    }

    private int drawnTerm() {
        int t = random.nextInt(mostTerms);
        return high ? 23 - t : t;
    }

    private int anyItem() {
        if (random.nextInt(25) == 0) {
            int[] odd = {-1, 40, 41, 63, 64, -64, Integer.MAX_VALUE};
            return odd[random.nextInt(odd.length)];
        }
        return random.nextInt(random.nextBoolean() ? 6 : 40);
    }

    private String anyLabel() {
        char first = (char) ('a' + random.nextInt(26));
        if (random.nextInt(3) > 0) {
            return String.valueOf(first);
        }
        return "" + first + (char) ('a' + random.nextInt(3));
    }

    /** Mostly one that a TERM has. */
    private String likelyLabel() {
        String label = anyLabel();
        for (int tries = 0; tries < 10 && !model.isLabel(label); tries++) {
            label = anyLabel();
        }
        return label;
    }

    private String spoilt(String text) {
        if (random.nextInt(8) > 0) {
            return text;
        }
        int p = random.nextInt(text.length() + 1);
        String odd = "a>,*+&-l0gt9z`{ A\u0000\u00ff/:";
        char sign = odd.charAt(random.nextInt(odd.length()));
        switch (random.nextInt(3)) {
            case 0:
                return text.substring(0, p);
            case 1:
                return text.substring(0, p) + sign + text.substring(p);
            default:
                return p == text.length() ? text : text.substring(0, p) + sign + text.substring(p + 1);
        }
    }

    private String anyLinks() {
        StringBuilder text = new StringBuilder();
        int many = 1 + random.nextInt(4);
        for (int i = 0; i < many; i++) {
            text.append(i > 0 ? "," : "").append(likelyLabel()).append('>').append(likelyLabel());
        }
        return text.toString();
    }

    private String anySearch() {
        StringBuilder text = new StringBuilder();
        int many = 1 + random.nextInt(4);
        for (int i = 0; i < many; i++) {
            text.append(i > 0 ? "+&-".substring(random.nextInt(3)).substring(0, 1) : "");
            text.append(likelyLabel()).append(random.nextBoolean() ? "*" : "");
        }
        return text.toString();
    }

    private String two() {
        int n = random.nextInt(20) == 0 ? random.nextInt(100) : drawnTerm();
        return "" + n / 10 + n % 10;
    }

    private String anyDay() {
        StringBuilder text = new StringBuilder();
        int many = random.nextInt(6);
        for (int i = 0; i < many; i++) {
            char kind = "llllumgppt".charAt(random.nextInt(10));
            text.append(kind);
            if (kind == 'g') {
                text.append(two()).append(random.nextInt(8) == 0 ? 2 : random.nextInt(2));
            } else if (kind != 't') {
                text.append(two()).append(two());
            }
        }
        return text.toString();
    }

    private void tell(String text) {
        for (int i = 0; i < text.length(); i += 4) {
            int v = 0;
            for (int k = 0; k < 4; k++) {
                v = v << 8 | (i + k < text.length() ? text.charAt(i + k) : random.nextInt(256));
            }
            int w = v;
            same("sign(" + w + ")", m -> m ? model.sign(w) : net.sign(w));
        }
        if (text.length() % 4 != 0) {
            int n = text.length();
            same("end(" + n + ")", m -> (m ? model.end(n) : net.end(n)) ? 1 : 0);
        }
    }

    // ---- the calls

    private void oneCall() {
        int kind = random.nextInt(50);
        if (model.count(0) < 2 || kind < 8 && model.count(0) < mostTerms) {
            tell(spoilt(anyLabel()));
            ask("term()", m -> m ? model.term() : net.term());
        } else if (kind < 16) {
            int x = anyTerm();
            int y = anyTerm();
            ask("links(" + x + ", " + y + ")", m -> m ? model.links(x, y) : net.links(x, y));
        } else if (kind < 26) {
            readingCall(random.nextInt(6));
        } else if (kind < 36) {
            changingCall(random.nextInt(12));
        } else {
            question(random.nextInt(16));
        }
    }

    private void readingCall(int kind) {
        switch (kind) {
            case 0: {
                int t = anyTerm();
                tell(spoilt(anyLabel()));
                ask("label(" + t + ")", m -> m ? model.label(t) : net.label(t));
                break;
            }
            case 1:
                tell(spoilt(anyLabel()));
                ask("named()", m -> m ? model.named() : net.named());
                break;
            case 2:
                tell(spoilt(anyLinks()));
                ask("net()", m -> m ? model.net() : net.net());
                break;
            case 3:
                tell(spoilt(anySearch()));
                ask("search()", m -> m ? model.search() : net.search());
                break;
            case 4:
                tell(spoilt(anyDay()));
                ask("day()", m -> m ? model.day() : net.day());
                break;
            default: {
                int v = random.nextInt();
                int n = random.nextInt(100) - 5;
                ask("sign(" + v + ")", m -> m ? model.sign(v) : net.sign(v));
                ask("end(" + n + ")", m -> (m ? model.end(n) : net.end(n)) ? 1 : 0);
                ask("end(0)", m -> (m ? model.end(0) : net.end(0)) ? 1 : 0);
            }
        }
    }

    private void changingCall(int kind) {
        int x = anyTerm();
        int y = anyTerm();
        int item = anyItem();
        int few = random.nextInt(20) == 0 ? random.nextInt(6) - 2 : random.nextInt(2);
        switch (kind) {
            case 0:
                ask("unlinks(" + x + ", " + y + ")", m -> m ? model.unlinks(x, y) : net.unlinks(x, y));
                break;
            case 1:
            case 2:
            case 3:
                ask("posts(" + item + ", " + x + ")", m -> m ? model.posts(item, x) : net.posts(item, x));
                break;
            case 4:
                ask("unposts(" + item + ", " + x + ")", m -> m ? model.unposts(item, x) : net.unposts(item, x));
                break;
            case 5:
                ask("goes(" + x + ", " + few + ")", m -> m ? model.goes(x, few) : net.goes(x, few));
                break;
            case 6:
                ask("merges(" + x + ", " + y + ")", m -> m ? model.merges(x, y) : net.merges(x, y));
                break;
            case 7:
                ask("thins()", m -> m ? model.thins() : net.thins());
                break;
            case 8:
            case 9:
                ask("undo()", m -> m ? model.undo() : net.undo());
                break;
            case 10:
                ask("keep(" + few + ")", m -> (m ? model.keep(few) : net.keep(few)) ? 1 : 0);
                break;
            default:
                ask("again(" + few + ")", m -> (m ? model.again(few) : net.again(few)) ? 1 : 0);
        }
    }

    private void question(int kind) {
        int x = anyTerm();
        int y = anyTerm();
        int what = random.nextInt(10) == 0 ? random.nextInt(8) - 2 : random.nextInt(4);
        switch (kind) {
            case 0:
                ask("would(" + x + ", " + y + ")", m -> m ? model.would(x, y) : net.would(x, y));
                break;
            case 1:
                ask("kin(" + x + ", " + what + ")", m -> m ? model.kin(x, what) : net.kin(x, what));
                break;
            case 2:
                ask("way(" + x + ", " + y + ")", m -> m ? model.way(x, y) : net.way(x, y));
                break;
            case 3:
                ask("ways(" + x + ", " + y + ")", m -> m ? model.ways(x, y) : net.ways(x, y));
                break;
            case 4:
                ask("between(" + x + ", " + y + ")", m -> m ? model.between(x, y) : net.between(x, y));
                break;
            case 5:
                ask("meets(" + x + ", " + y + ")", m -> m ? model.meets(x, y) : net.meets(x, y));
                break;
            case 6:
                ask("steps(" + x + ", " + y + ")", m -> m ? model.steps(x, y) : net.steps(x, y));
                break;
            case 7:
                ask("depth(" + x + ")", m -> m ? model.depth(x) : net.depth(x));
                break;
            case 8:
                ask("tops()", m -> m ? model.tops() : net.tops());
                break;
            case 9:
                ask("needless()", m -> m ? model.needless() : net.needless());
                break;
            case 10:
                ask("chains()", m -> m ? model.chains() : net.chains());
                break;
            default:
                moreQuestions(kind, x);
        }
    }

    private void moreQuestions(int kind, int x) {
        int item = anyItem();
        switch (kind) {
            case 11: {
                int set = random.nextInt(8) == 0 ? random.nextInt() : model.count(1) & random.nextInt();
                ask("apart(" + set + ")", m -> m ? model.apart(set) : net.apart(set));
                break;
            }
            case 12:
                ask("posted(" + item + ")", m -> m ? model.posted(item) : net.posted(item));
                break;
            case 13: {
                int seed = random.nextInt();
                int n = random.nextInt(6) == 0 ? random.nextInt(70) - 5 : 1 + random.nextInt(60);
                ask("years(" + seed + ", " + n + ")", m -> m ? model.years(seed, n) : net.years(seed, n));
                break;
            }
            case 14:
                ask("place(" + x + ")", m -> m ? model.place(x) : net.place(x));
                break;
            default:
                ask("labels(" + x + ")", m -> m ? model.labels(x) : net.labels(x));
        }
    }
}
