import java.util.function.Supplier;
import java.util.function.ToLongFunction;

/** What calls must leave as it was, compared on two objects that the same calls have brought to one state. */
final class Same {
    private static final ToLongFunction<SubjectNet> NOTHING = net -> 0;
    private static final ToLongFunction<SubjectNet> EMPTIES = net -> net.end(0) ? 1 : 0;

    private Same() {
    }

    /** The call changes nothing at all, not even THE TEXT and the ROW. */
    static void nothing(String what, Supplier<SubjectNet> start, ToLongFunction<SubjectNet> call, long due) {
        alike(what, start, call, due, NOTHING, true);
    }

    /** The call changes nothing but THE TEXT, which it empties. */
    static void emptied(String what, Supplier<SubjectNet> start, ToLongFunction<SubjectNet> call, long due) {
        alike(what, start, call, due, EMPTIES, true);
    }

    /** The call changes nothing but the ROW. */
    static void question(String what, Supplier<SubjectNet> start, ToLongFunction<SubjectNet> call) {
        alike(what, start, call, call.applyAsLong(start.get()), NOTHING, false);
    }

    /** The call changes nothing but the ROW, and THE TEXT, which it empties. */
    static void textQuestion(String what, Supplier<SubjectNet> start, ToLongFunction<SubjectNet> call) {
        alike(what, start, call, call.applyAsLong(start.get()), EMPTIES, false);
    }

    /** The call answers as due, and leaves all as the other one does: what is, what was, and what is kept. */
    static void alike(String what, Supplier<SubjectNet> start, ToLongFunction<SubjectNet> call, long due,
            ToLongFunction<SubjectNet> other, boolean row) {
        for (int undone = 0; undone <= 8; undone++) {
            SubjectNet got = start.get();
            SubjectNet want = start.get();
            Check.due(what, call.applyAsLong(got), due);
            other.applyAsLong(want);
            for (int i = 0; i < undone; i++) {
                Check.due(what + ", then undo()", got.undo(), want.undo());
            }
            compare(what + ", then " + undone + " times undo()", whole(got, row), whole(want, row));
        }
        for (int i = 0; i < 2; i++) {
            SubjectNet got = start.get();
            SubjectNet want = start.get();
            call.applyAsLong(got);
            other.applyAsLong(want);
            Check.due(what + ", then again(" + i + ")", got.again(i), want.again(i));
            compare(what + ", then again(" + i + ")", whole(got, row), whole(want, row));
        }
    }

    private static void compare(String what, String got, String want) {
        Check.due(what + ": got " + got + ", want " + want + ": alike", got.equals(want), true);
    }

    /** All that can be asked for: the ROW (if so), counts, ORDER, LINKS, LABELS, ITEMS, THE TEXT. */
    static String whole(SubjectNet net, boolean row) {
        StringBuilder all = new StringBuilder();
        if (row) {
            all.append("row ");
            tellRow(net, all);
        }
        all.append(" counts");
        for (int what = 0; what <= 7; what++) {
            if (what != 6) {
                all.append(' ').append(net.count(what));
            }
        }
        int size = net.count(0);
        for (int p = 0; p < size; p++) {
            int t = net.at(p);
            all.append("; at ").append(p).append(": ").append(t).append(" > ").append(net.kin(t, 0)).append(' ');
            net.labels(t);
            tellRow(net, all);
        }
        all.append("; posted");
        for (int item = 0; item < 40; item++) {
            all.append(' ').append(net.posted(item));
        }
        all.append("; text ");
        tellText(net, all);
        return all.toString();
    }

    private static void tellRow(SubjectNet net, StringBuilder all) {
        int many = net.count(6);
        for (int i = 0; i < many; i++) {
            all.append(i == 0 ? "" : ",").append(net.row(i));
        }
    }

    /** THE TEXT can't be asked for: what term() makes of it has to do. */
    private static void tellText(SubjectNet net, StringBuilder all) {
        int t = net.term();
        all.append(t);
        if (t >= 0) {
            net.labels(t);
            all.append(' ');
            tellRow(net, all);
        }
    }
}
