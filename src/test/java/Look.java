import java.util.ArrayList;
import java.util.IdentityHashMap;
import java.util.List;
import java.util.Map;

/**
 * All that objects of a setting answer, and how they go on. Each part is asked of an object of its own, since nothing
 * is promised behind 512 calls.
 */
final class Look {
    private record Step(String name, Call call) {
    }

    private static final List<List<Step>> PARTS = new ArrayList<>();
    private static final Map<Setting, List<Long>> KNOWN = new IdentityHashMap<>();

    static {
        lookAtRegion(part());
        lookAtHeights(part());
        lookAtWalk(part());
        lookAtStones(part());
        lookAtRows(part());
        for (int tape = 0; tape < 6; tape += 2) {
            lookAtTape(part(), tape);
        }
        lookAtSorts(part());
        goOn("read()", RegionWords::read);
        goOn("undo()", RegionWords::undo);
        goOn("home", Look::goHome);
        goOnWithTurns(part());
        goOnWithSeen(part());
        goOnWithBook(part());
        goOnWithEvents(part());
    }

    private Look() {
    }

    /** The first answer in which they differ, or null. */
    static String difference(Setting one, Setting other) {
        List<Long> due = KNOWN.computeIfAbsent(other, Look::answers);
        List<Long> got = answers(one);
        int at = 0;
        for (List<Step> part : PARTS) {
            for (Step step : part) {
                if (!got.get(at).equals(due.get(at))) {
                    return step.name + " answers " + got.get(at) + ", without it " + due.get(at);
                }
                at++;
            }
        }
        return null;
    }

    private static List<Long> answers(Setting setting) {
        List<Long> answers = new ArrayList<>();
        for (List<Step> part : PARTS) {
            RegionWords x = setting.made();
            for (Step step : part) {
                answers.add(step.call.on(x));
            }
        }
        return answers;
    }

    private static List<Step> part() {
        List<Step> part = new ArrayList<>();
        PARTS.add(part);
        return part;
    }

    private static void add(List<Step> part, String name, Call call) {
        part.add(new Step(name, call));
    }

    private static void lookAtRegion(List<Step> part) {
        for (int i = 0; i < 36; i++) {
            int cell = i;
            for (int k = 0; k < 3; k++) {
                int what = k;
                add(part, "of(" + cell + ", " + what + ")", x -> x.of(cell, what));
            }
        }
        for (int k = 0; k < 9; k++) {
            int what = k;
            add(part, "told(" + what + ")", x -> x.told(what));
        }
        for (int k = 0; k < 50; k++) {
            int i = k;
            add(part, "word(" + i + ")", x -> x.word(i));
        }
        add(part, "centre(0)", x -> x.centre(0));
        add(part, "centre(1)", x -> x.centre(1));
        add(part, "mean()", RegionWords::mean);
    }

    private static void lookAtHeights(List<Step> part) {
        for (int i = 0; i < 49; i++) {
            int vertex = i;
            for (int k = 0; k < 4; k++) {
                int what = k;
                add(part, "height(" + vertex + ", " + what + ")", x -> x.height(vertex, what));
            }
            int other = (i * 5 + 8) % 49;
            add(part, "far(" + vertex + ", " + other + ")", x -> x.far(vertex, other));
        }
    }

    private static void lookAtWalk(List<Step> part) {
        for (int k = 0; k < 6; k++) {
            int what = k;
            add(part, "walked(" + what + ")", x -> x.walked(what));
        }
        for (int i = 0; i < 36; i++) {
            int cell = i;
            add(part, "winds(" + cell + ")", x -> x.winds(cell));
        }
    }

    private static void lookAtStones(List<Step> part) {
        for (int k = 0; k < 3; k++) {
            int kind = k;
            add(part, "weight(" + kind + ")", x -> x.weight(kind));
            add(part, "barred(" + kind + ")", x -> x.barred(kind));
            add(part, "coverings(" + kind + ")", x -> x.coverings(kind));
            add(part, "odds(" + kind + ", 14, 0, 1)", x -> x.odds(kind, 14, 0, 1));
            for (int cell = 0; cell < 36; cell += 7) {
                int over = cell;
                add(part, "first(" + kind + ", " + over + ")", x -> x.first(kind, over));
            }
        }
    }

    private static void lookAtRows(List<Step> part) {
        add(part, "fits()", RegionWords::fits);
        add(part, "looked()", RegionWords::looked);
        for (int k = 0; k < 3; k++) {
            int what = k;
            add(part, "after(" + what + ")", x -> x.after(what));
        }
        for (int k = 0; k < 4; k++) {
            int what = k;
            add(part, "count(" + what + ")", x -> x.count(what));
        }
    }

    private static void lookAtTape(List<Step> part, int first) {
        for (int k = 0; k < 122; k++) {
            int tape = first + k / 61;
            int i = k % 61;
            add(part, "peek(" + tape + ", " + i + ")", x -> x.peek(tape, i));
        }
        add(part, "judge(" + first + ", 0)", x -> x.judge(first, 0));
    }

    private static void lookAtSorts(List<Step> part) {
        for (int k = 0; k < 36; k++) {
            int tape = k / 6;
            int other = k % 6;
            add(part, "shift(" + tape + ", 0, " + other + ", 0, 0)", x -> x.shift(tape, 0, other, 0, 0));
        }
    }

    /** What comes of a call that changes much. */
    private static void goOn(String name, Call call) {
        List<Step> part = part();
        add(part, name, call);
        lookAtRegion(part);
        lookAtWalk(part);
        lookAtRows(part);
    }

    /** Leads the WALK back to where it begins, so that its STEPS are told by what it WINDS round. */
    private static long goHome(RegionWords x) {
        int rows = x.walked(1) / 7 - x.walked(2) / 7;
        int columns = x.walked(1) % 7 - x.walked(2) % 7;
        for (int i = 0; i < Math.abs(rows); i++) {
            x.walk(rows > 0 ? 1 : 3);
        }
        for (int i = 0; i < Math.abs(columns); i++) {
            x.walk(columns > 0 ? 0 : 2);
        }
        return x.walked(0);
    }

    private static void goOnWithTurns(List<Step> part) {
        for (int i = 0; i < 49; i++) {
            int vertex = i;
            add(part, "turn(" + vertex + ")", x -> x.turn(vertex));
        }
    }

    private static void goOnWithSeen(List<Step> part) {
        add(part, "fill", x -> x.fill(0, 35, 0));
        for (int i = 0; i < 36; i++) {
            int cell = i;
            add(part, "cell(" + cell + ", 1)", x -> x.cell(cell, 1));
            add(part, "fits(), cells to " + cell, RegionWords::fits);
        }
        add(part, "see(0, 1)", x -> x.see(0, 1));
        add(part, "fits(), one more", RegionWords::fits);
    }

    private static void goOnWithBook(List<Step> part) {
        for (int i = 0; i < 36; i++) {
            int cell = i;
            for (int is = 0; is < 2; is++) {
                int in = is;
                add(part, "cell(" + cell + ", " + in + ")", x -> x.cell(cell, in));
                add(part, "looked(), cell " + cell + " " + in, RegionWords::looked);
            }
        }
        add(part, "book(0, 0)", x -> x.book(0, 0));
        add(part, "looked(), one more", RegionWords::looked);
    }

    private static void goOnWithEvents(List<Step> part) {
        for (int k = 0; k < 2; k++) {
            int is = k;
            add(part, "fill(0, 35, " + is + ")", x -> x.fill(0, 35, is));
            add(part, "after(0) of " + is, x -> x.after(0));
            add(part, "after(1) of " + is, x -> x.after(1));
        }
        add(part, "event(2, 5)", x -> x.event(2, 5));
        add(part, "after(0), one more", x -> x.after(0));
    }
}
