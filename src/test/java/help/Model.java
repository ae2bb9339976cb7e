import java.util.ArrayList;
import java.util.Collections;
import java.util.Comparator;
import java.util.LinkedHashSet;
import java.util.List;
import java.util.NoSuchElementException;
import java.util.Set;
import java.util.TreeMap;
import java.util.TreeSet;

/**
 * The document once more, in its plainest and slowest form: all ways are written
 * out, sets are sets. It shares no code with SubjectNet, so that a random run
 * can hold the one against the other.
 */
final class Model {
    private static final class Subject {
        final List<String> labels = new ArrayList<>();
        final TreeSet<Integer> items = new TreeSet<>();
        final TreeSet<Integer> narrower = new TreeSet<>();
    }

    private static final class State {
        final TreeMap<Integer, Subject> subjects = new TreeMap<>();
        final List<Integer> order = new ArrayList<>();

        State copy() {
            State c = new State();
            subjects.forEach((t, s) -> {
                Subject n = new Subject();
                n.labels.addAll(s.labels);
                n.items.addAll(s.items);
                n.narrower.addAll(s.narrower);
                c.subjects.put(t, n);
            });
            c.order.addAll(order);
            return c;
        }
    }

    private State s = new State();
    private final List<State> undoable = new ArrayList<>();
    private final State[] kept = new State[2];
    private List<Long> row = new ArrayList<>();
    private String text = "";

    // ---- helpers

    private boolean has(int t) {
        return s.subjects.containsKey(t);
    }

    private Set<Integer> narrower(int t) {
        return s.subjects.get(t).narrower;
    }

    private List<List<Integer>> allWays(int x, int y) {
        List<List<Integer>> found = new ArrayList<>();
        List<Integer> path = new ArrayList<>();
        path.add(x);
        walk(y, path, found);
        return found;
    }

    private void walk(int y, List<Integer> path, List<List<Integer>> found) {
        int last = path.get(path.size() - 1);
        if (last == y) {
            found.add(new ArrayList<>(path));
            return;
        }
        for (int n : narrower(last)) {
            path.add(n);
            walk(y, path, found);
            path.remove(path.size() - 1);
        }
    }

    private static List<Integer> first(List<List<Integer>> ways) {
        Comparator<List<Integer>> bySize = Comparator.comparingInt(List::size);
        return Collections.min(ways, bySize.thenComparing((a, b) -> {
            for (int i = 0; i < a.size(); i++) {
                if (!a.get(i).equals(b.get(i))) {
                    return a.get(i) - b.get(i);
                }
            }
            return 0;
        }));
    }

    private Set<Integer> belowOf(int x) {
        Set<Integer> seen = new TreeSet<>();
        List<Integer> todo = new ArrayList<>(List.of(x));
        while (!todo.isEmpty()) {
            int t = todo.remove(0);
            if (seen.add(t)) {
                todo.addAll(narrower(t));
            }
        }
        return seen;
    }

    private Set<Integer> aboveOf(int x) {
        Set<Integer> set = new TreeSet<>();
        for (int t : s.subjects.keySet()) {
            if (belowOf(t).contains(x)) {
                set.add(t);
            }
        }
        return set;
    }

    private Set<Integer> broader(int x) {
        Set<Integer> set = new TreeSet<>();
        for (int t : s.subjects.keySet()) {
            if (narrower(t).contains(x)) {
                set.add(t);
            }
        }
        return set;
    }

    private static int bits(Iterable<Integer> set) {
        int b = 0;
        for (int t : set) {
            b |= 1 << t;
        }
        return b;
    }

    private void tell(long... numbers) {
        row = new ArrayList<>();
        for (long n : numbers) {
            row.add(n);
        }
    }

    private void tellAll(List<Integer> numbers) {
        row = new ArrayList<>();
        for (int n : numbers) {
            row.add((long) n);
        }
    }

    private int comes(int x, int y) {
        List<Integer> was = new ArrayList<>(s.order);
        if (s.order.indexOf(x) > s.order.indexOf(y)) {
            Set<Integer> aboveX = aboveOf(x);
            Set<Integer> belowY = belowOf(y);
            List<Integer> fore = new ArrayList<>();
            List<Integer> hind = new ArrayList<>();
            List<Integer> places = new ArrayList<>();
            for (int p = 0; p < was.size(); p++) {
                int t = was.get(p);
                boolean isFore = aboveX.contains(t) && p >= was.indexOf(y);
                boolean isHind = belowY.contains(t) && p <= was.indexOf(x);
                if (isFore) {
                    fore.add(t);
                }
                if (isHind) {
                    hind.add(t);
                }
                if (isFore || isHind) {
                    places.add(p);
                }
            }
            fore.addAll(hind);
            for (int i = 0; i < places.size(); i++) {
                s.order.set(places.get(i), fore.get(i));
            }
        }
        narrower(x).add(y);
        int moved = 0;
        for (int t : was) {
            if (was.indexOf(t) != s.order.indexOf(t)) {
                moved++;
            }
        }
        return moved;
    }

    private int linkAct(int x, int y) {
        if (!has(x) || !has(y) || x == y) {
            return -1;
        }
        if (narrower(x).contains(y)) {
            return -2;
        }
        List<List<Integer>> back = allWays(y, x);
        if (!back.isEmpty()) {
            tellAll(first(back));
            return -4;
        }
        return comes(x, y);
    }

    private int unlinkAct(int x, int y) {
        if (!has(x) || !has(y) || x == y) {
            return -1;
        }
        return narrower(x).remove(y) ? count(2) : -2;
    }

    private int postAct(int item, int t) {
        if (!has(t) || item < 0 || item > 39) {
            return -1;
        }
        return s.subjects.get(t).items.add(item) ? s.subjects.get(t).items.size() : -2;
    }

    private int unpostAct(int item, int t) {
        if (!has(t) || item < 0 || item > 39) {
            return -1;
        }
        return s.subjects.get(t).items.remove(item) ? s.subjects.get(t).items.size() : -2;
    }

    private void remove(int t) {
        for (Subject o : s.subjects.values()) {
            o.narrower.remove(t);
        }
        s.subjects.remove(t);
        s.order.remove((Integer) t);
    }

    private int goAct(int t, int heirs) {
        if (!has(t) || heirs < 0 || heirs > 1) {
            return -1;
        }
        Subject gone = s.subjects.get(t);
        Set<Integer> broader = broader(t);
        remove(t);
        if (heirs == 1) {
            for (int b : broader) {
                s.subjects.get(b).items.addAll(gone.items);
            }
            for (int b : broader) {
                for (int n : gone.narrower) {
                    if (!narrower(b).contains(n)) {
                        comes(b, n);
                    }
                }
            }
        }
        return s.subjects.size();
    }

    private int mergeAct(int x, int y) {
        if (!has(x) || !has(y) || x == y) {
            return -1;
        }
        List<List<Integer>> over = allWays(x, y);
        over.addAll(allWays(y, x));
        over.removeIf(w -> w.size() == 2);
        if (!over.isEmpty()) {
            tellAll(first(over));
            return -4;
        }
        Subject gone = s.subjects.get(y);
        Set<Integer> broader = broader(y);
        remove(y);
        s.subjects.get(x).items.addAll(gone.items);
        s.subjects.get(x).labels.addAll(gone.labels);
        for (int n : gone.narrower) {
            if (n != x && !narrower(x).contains(n)) {
                comes(x, n);
            }
        }
        for (int b : broader) {
            if (b != x && !narrower(b).contains(x)) {
                comes(b, x);
            }
        }
        return s.subjects.size();
    }

    private List<Integer> needlessLinks() {
        List<Integer> found = new ArrayList<>();
        for (int x : s.subjects.keySet()) {
            for (int y : new ArrayList<>(narrower(x))) {
                narrower(x).remove(y);
                if (belowOf(x).contains(y)) {
                    found.add(100 * x + y);
                }
                narrower(x).add(y);
            }
        }
        Collections.sort(found);
        return found;
    }

    private int thinAct() {
        List<Integer> links = needlessLinks();
        for (int l : links) {
            narrower(l / 100).remove(l % 100);
        }
        return links.isEmpty() ? -2 : links.size();
    }

    private int change(State before, int answer) {
        if (answer >= 0) {
            undoable.add(before);
            if (undoable.size() > 8) {
                undoable.remove(0);
            }
        }
        return answer;
    }

    private String take() {
        String t = text;
        text = "";
        return t;
    }

    private int owner(String label) {
        for (int t : s.subjects.keySet()) {
            if (s.subjects.get(t).labels.contains(label)) {
                return t;
            }
        }
        return -1;
    }

    /** Where a text stops being one LABEL, or -1 if it is one. */
    private static int notALabel(String t) {
        if (t.matches("[a-z][a-z]?")) {
            return -1;
        }
        int p = 0;
        while (p < 2 && p < t.length() && t.charAt(p) >= 'a' && t.charAt(p) <= 'z') {
            p++;
        }
        return p;
    }

    private String labelAt(String t, int p) {
        int q = p;
        while (q < p + 2 && q < t.length() && t.charAt(q) >= 'a' && t.charAt(q) <= 'z') {
            q++;
        }
        return t.substring(p, q);
    }

    private int longestFrom(int t) {
        int most = 0;
        for (int n : narrower(t)) {
            most = Math.max(most, longestFrom(n) + 1);
        }
        return most;
    }

    private int longestTo(int t) {
        int most = 0;
        for (int b : broader(t)) {
            most = Math.max(most, longestTo(b) + 1);
        }
        return most;
    }

    /** The most TERMS of which none is below another: as many as the fewest CHAINS. */
    private int widest(List<Integer> open) {
        if (open.isEmpty()) {
            return 0;
        }
        int t = open.get(0);
        List<Integer> without = new ArrayList<>(open.subList(1, open.size()));
        List<Integer> with = new ArrayList<>(without);
        with.removeAll(belowOf(t));
        with.removeAll(aboveOf(t));
        int best = widest(with) + 1;
        return with.size() == without.size() ? best : Math.max(best, widest(without));
    }

    /** For the tests, which want LABELS that are there. */
    boolean isLabel(String label) {
        return owner(label) >= 0;
    }

    // ---- the face

    int sign(int v) {
        if (text.length() + 4 > 80) {
            return -1;
        }
        text += "" + (char) (v >>> 24) + (char) (v >> 16 & 255) + (char) (v >> 8 & 255) + (char) (v & 255);
        return text.length();
    }

    boolean end(int n) {
        if (n < 0 || n > text.length()) {
            return false;
        }
        text = text.substring(0, n);
        return true;
    }

    int term() {
        String t = take();
        int p = notALabel(t);
        if (p >= 0) {
            return -1 - p;
        }
        if (owner(t) >= 0) {
            return -100;
        }
        if (s.subjects.size() == 24 || count(3) == 40) {
            return -200;
        }
        State before = s.copy();
        int n = 0;
        while (has(n)) {
            n++;
        }
        Subject subject = new Subject();
        subject.labels.add(t);
        s.subjects.put(n, subject);
        s.order.add(n);
        return change(before, n);
    }

    int label(int t) {
        String l = take();
        if (!has(t)) {
            return -300;
        }
        int p = notALabel(l);
        if (p >= 0) {
            return -1 - p;
        }
        if (owner(l) >= 0) {
            return -100;
        }
        if (count(3) == 40) {
            return -200;
        }
        State before = s.copy();
        s.subjects.get(t).labels.add(l);
        return change(before, s.subjects.get(t).labels.size());
    }

    int named() {
        String l = take();
        int p = notALabel(l);
        if (p >= 0) {
            return -1 - p;
        }
        return owner(l) >= 0 ? owner(l) : -100;
    }

    int labels(int t) {
        if (!has(t)) {
            return -1;
        }
        row = new ArrayList<>();
        for (String l : s.subjects.get(t).labels) {
            row.add((l.charAt(0) - 96) * 32L + (l.length() > 1 ? l.charAt(1) - 96 : 0));
        }
        return row.size();
    }

    int links(int x, int y) {
        State before = s.copy();
        return change(before, linkAct(x, y));
    }

    int unlinks(int x, int y) {
        State before = s.copy();
        return change(before, unlinkAct(x, y));
    }

    int net() {
        String t = take();
        List<int[]> links = new ArrayList<>();
        int p = 0;
        while (!t.isEmpty()) {
            int[] link = new int[2];
            for (int side = 0; side < 2; side++) {
                String l = labelAt(t, p);
                if (l.isEmpty() || owner(l) < 0) {
                    return -1 - p;
                }
                link[side] = owner(l);
                p += l.length();
                if (side == 0) {
                    if (p == t.length() || t.charAt(p) != '>') {
                        return -1 - p;
                    }
                    p++;
                }
            }
            links.add(link);
            if (p == t.length()) {
                break;
            }
            if (t.charAt(p) != ',') {
                return -1 - p;
            }
            p++;
        }
        State before = s.copy();
        int did = 0;
        boolean came = false;
        for (int[] link : links) {
            int answer = linkAct(link[0], link[1]);
            if (answer == -1 || answer == -4) {
                break;
            }
            came |= answer >= 0;
            did++;
        }
        if (came) {
            change(before, 0);
        }
        tell(did < links.size() ? 1 : 0);
        return did;
    }

    int place(int t) {
        if (!has(t)) {
            throw new NoSuchElementException();
        }
        return s.order.indexOf(t);
    }

    int at(int place) {
        if (place < 0 || place >= s.order.size()) {
            throw new NoSuchElementException();
        }
        return s.order.get(place);
    }

    int would(int x, int y) {
        State before = s.copy();
        int answer = linkAct(x, y);
        if (answer >= 0) {
            tellAll(s.order);
        }
        s = before;
        return answer;
    }

    int kin(int t, int what) {
        if (!has(t) || what < 0 || what > 3) {
            return -1;
        }
        Set<Integer> set = what == 0 ? narrower(t) : what == 1 ? broader(t) : what == 2 ? belowOf(t) : aboveOf(t);
        tell(set.size());
        return bits(set);
    }

    int way(int x, int y) {
        if (!has(x) || !has(y) || x == y) {
            return -1;
        }
        List<List<Integer>> ways = allWays(x, y);
        if (ways.isEmpty()) {
            return -2;
        }
        tellAll(first(ways));
        return row.size();
    }

    int ways(int x, int y) {
        if (!has(x) || !has(y) || x == y) {
            return -1;
        }
        List<List<Integer>> ways = allWays(x, y);
        if (ways.isEmpty()) {
            return -2;
        }
        tell(ways.size());
        return ways.stream().mapToInt(List::size).max().getAsInt();
    }

    int between(int x, int y) {
        if (!has(x) || !has(y) || x == y) {
            return -1;
        }
        Set<Integer> set = new TreeSet<>();
        allWays(x, y).forEach(set::addAll);
        if (set.isEmpty()) {
            return -2;
        }
        int many = 0;
        for (int t : set) {
            for (int n : narrower(t)) {
                many += set.contains(n) ? 1 : 0;
            }
        }
        tell(many);
        return bits(set);
    }

    private Set<Integer> withOtherBelow(Set<Integer> set) {
        Set<Integer> found = new TreeSet<>();
        for (int t : set) {
            for (int o : set) {
                if (t != o && belowOf(t).contains(o)) {
                    found.add(t);
                }
            }
        }
        return found;
    }

    int meets(int x, int y) {
        if (!has(x) || !has(y)) {
            return -1;
        }
        Set<Integer> both = aboveOf(x);
        both.retainAll(aboveOf(y));
        Set<Integer> nearest = new TreeSet<>(both);
        nearest.removeAll(withOtherBelow(both));
        tell(bits(nearest));
        return bits(both);
    }

    int steps(int x, int y) {
        if (!has(x) || !has(y)) {
            return -1;
        }
        List<Integer> seen = new ArrayList<>(List.of(x));
        List<Integer> far = new ArrayList<>(List.of(0));
        for (int i = 0; i < seen.size(); i++) {
            if (seen.get(i) == y) {
                return far.get(i);
            }
            Set<Integer> near = new LinkedHashSet<>(narrower(seen.get(i)));
            near.addAll(broader(seen.get(i)));
            near.removeAll(seen);
            for (int n : near) {
                seen.add(n);
                far.add(far.get(i) + 1);
            }
        }
        return -2;
    }

    int depth(int t) {
        if (!has(t)) {
            return -1;
        }
        tell(longestFrom(t));
        return longestTo(t);
    }

    int tops() {
        Set<Integer> tops = new TreeSet<>();
        Set<Integer> bottoms = new TreeSet<>();
        for (int t : s.subjects.keySet()) {
            if (broader(t).isEmpty()) {
                tops.add(t);
            }
            if (narrower(t).isEmpty()) {
                bottoms.add(t);
            }
        }
        tell(bits(bottoms), bits(tops) & bits(bottoms));
        return bits(tops);
    }

    int needless() {
        tellAll(needlessLinks());
        return row.size();
    }

    int chains() {
        int most = 0;
        for (int t : s.subjects.keySet()) {
            most = Math.max(most, longestFrom(t) + 1);
        }
        tell(most);
        return widest(new ArrayList<>(s.subjects.keySet()));
    }

    int apart(int set) {
        if (set < 0) {
            return -1;
        }
        List<Integer> terms = new ArrayList<>();
        for (int t = 0; t < 31; t++) {
            if ((set & 1 << t) != 0) {
                if (!has(t)) {
                    return -1;
                }
                terms.add(t);
            }
        }
        int pairs = 0;
        for (int a : terms) {
            for (int b : terms) {
                pairs += a != b && belowOf(a).contains(b) ? 1 : 0;
            }
        }
        tell(pairs);
        return pairs == 0 ? 1 : 0;
    }

    int posts(int item, int t) {
        State before = s.copy();
        return change(before, postAct(item, t));
    }

    int unposts(int item, int t) {
        State before = s.copy();
        return change(before, unpostAct(item, t));
    }

    int search() {
        String t = take();
        TreeSet<Integer> found = new TreeSet<>();
        char how = '+';
        int p = 0;
        while (true) {
            String l = labelAt(t, p);
            if (l.isEmpty() || owner(l) < 0) {
                return -1 - p;
            }
            p += l.length();
            Set<Integer> next = new TreeSet<>(s.subjects.get(owner(l)).items);
            if (p < t.length() && t.charAt(p) == '*') {
                for (int b : belowOf(owner(l))) {
                    next.addAll(s.subjects.get(b).items);
                }
                p++;
            }
            if (how == '+') {
                found.addAll(next);
            } else if (how == '&') {
                found.retainAll(next);
            } else {
                found.removeAll(next);
            }
            if (p == t.length()) {
                break;
            }
            how = t.charAt(p);
            if ("+&-".indexOf(how) < 0) {
                return -1 - p;
            }
            p++;
        }
        tellAll(new ArrayList<>(found));
        return found.size();
    }

    int posted(int item) {
        if (item < 0 || item > 39) {
            return -1;
        }
        Set<Integer> set = new TreeSet<>();
        for (int t : s.subjects.keySet()) {
            if (s.subjects.get(t).items.contains(item)) {
                set.add(t);
            }
        }
        tell(bits(withOtherBelow(set)));
        return bits(set);
    }

    int goes(int t, int heirs) {
        State before = s.copy();
        return change(before, goAct(t, heirs));
    }

    int merges(int x, int y) {
        State before = s.copy();
        return change(before, mergeAct(x, y));
    }

    int thins() {
        State before = s.copy();
        return change(before, thinAct());
    }

    int day() {
        String t = take();
        List<String> acts = new ArrayList<>();
        int p = 0;
        while (p < t.length()) {
            int digits = "lump".indexOf(t.charAt(p)) >= 0 ? 4 : t.charAt(p) == 'g' ? 3 : t.charAt(p) == 't' ? 0 : -1;
            if (digits < 0) {
                return -1 - p;
            }
            for (int k = 1; k <= digits; k++) {
                if (p + k == t.length() || t.charAt(p + k) < '0' || t.charAt(p + k) > '9') {
                    return -1 - (p + k);
                }
            }
            acts.add(t.substring(p, p + 1 + digits));
            p += 1 + digits;
        }
        State before = s.copy();
        int done = 0;
        for (String act : acts) {
            if (actOf(act) < 0) {
                break;
            }
            done++;
        }
        if (done > 0) {
            change(before, 0);
        }
        tell(done < acts.size() ? 1 : 0, count(2));
        return done;
    }

    private int actOf(String act) {
        if (act.equals("t")) {
            return thinAct();
        }
        int a = Integer.parseInt(act.substring(1, 3));
        int b = Integer.parseInt(act.substring(3));
        switch (act.charAt(0)) {
            case 'l': return linkAct(a, b);
            case 'u': return unlinkAct(a, b);
            case 'm': return mergeAct(a, b);
            case 'g': return goAct(a, b);
            default: return postAct(a, b);
        }
    }

    int undo() {
        if (undoable.isEmpty()) {
            return -1;
        }
        s = undoable.remove(undoable.size() - 1);
        return undoable.size();
    }

    int years(int seed, int n) {
        if (n < 1 || n > 60) {
            return -1;
        }
        State before = s.copy();
        int r = seed;
        int came = 0;
        int rings = 0;
        for (int i = 0; i < n; i++) {
            r = r * 1103515245 + 12345;
            int x = (int) ((r & 0xffffffffL) / 65536 % 24);
            r = r * 1103515245 + 12345;
            int y = (int) ((r & 0xffffffffL) / 65536 % 24);
            int answer = linkAct(x, y);
            came += answer >= 0 ? 1 : 0;
            rings += answer == -4 ? 1 : 0;
        }
        int unlike = 0;
        for (int t : s.order) {
            unlike += s.order.indexOf(t) != before.order.indexOf(t) ? 1 : 0;
        }
        s = before;
        tell(rings, unlike);
        return came;
    }

    boolean keep(int i) {
        if (i < 0 || i > 1) {
            return false;
        }
        kept[i] = s.copy();
        return true;
    }

    boolean again(int i) {
        if (i < 0 || i > 1 || kept[i] == null) {
            return false;
        }
        s = kept[i].copy();
        undoable.clear();
        return true;
    }

    int count(int what) {
        switch (what) {
            case 0: return s.subjects.size();
            case 1: return bits(s.subjects.keySet());
            case 2: return s.subjects.values().stream().mapToInt(u -> u.narrower.size()).sum();
            case 3: return s.subjects.values().stream().mapToInt(u -> u.labels.size()).sum();
            case 4: return s.subjects.values().stream().mapToInt(u -> u.items.size()).sum();
            case 5: return undoable.size();
            case 6: return row.size();
            case 7: return text.length();
            default: return -1;
        }
    }

    long row(int i) {
        if (i < 0 || i >= row.size()) {
            throw new NoSuchElementException();
        }
        return row.get(i);
    }
}
