import java.util.ArrayList;
import java.util.List;

/**
 * Two objects that lived through the same, one of them through a call more: by all that can be asked of them,
 * whether that call changed anything. What is not told outright (THE TAPE, what is SEEN, IMAGES, CELLS) is
 * brought out by calls that use it.
 */
final class Twins {
    interface Story {
        void tell(RankStairs x);
    }

    interface Call {
        long on(RankStairs x);
    }

    /** Calls that only ask. */
    static final List<Call> ASKS = List.of(x -> x.fault(), x -> x.torn(), x -> x.homes(), x -> x.fits(), x -> x.rule(4),
        x -> x.count(5), x -> x.step(0, 3), x -> x.lodger(0, 5), x -> x.climb(0, 0), x -> x.climb(0, 10), x -> x.ways(0),
        x -> x.smooth(0, 0), x -> x.smooth(0, 1), x -> x.must(0), x -> x.ahead(60, 0), x -> x.ahead(60, 1),
        x -> x.ahead(60, 10), x -> x.breaks(0), x -> x.stuck(0), x -> x.gap(0), x -> x.legs(0), x -> x.hold(0),
        x -> x.hold(60), x -> x.best(0), x -> x.lodge(0), x -> x.lodge(1), x -> x.lodge(10), x -> x.odds(3, 0, 0),
        x -> x.mean(3, 1), x -> x.floors(0), x -> x.drift(1, 60, 0), x -> x.drift(1, 60, 1));
    private static final int STEPS = 10, LODGERS = 4, SHEETS = 4, LANES = 3, FEW_CELLS = 4;
    private final RankStairs x;
    private final List<String> answers = new ArrayList<>();

    private Twins(RankStairs x) {
        this.x = x;
    }

    /** The call answers as due, and nothing is other than without it. */
    static void unchanged(long want, Story story, Call call) {
        RankStairs with = new RankStairs();
        RankStairs without = new RankStairs();
        story.tell(with);
        story.tell(without);
        Bench.due(want, call.on(with));
        same(with, without);
    }

    static void same(RankStairs with, RankStairs without) {
        List<String> a = new Twins(with).ask();
        List<String> b = new Twins(without).ask();
        for (int k = 0; k < b.size(); k++) {
            if (!a.get(k).equals(b.get(k))) {
                Bench.complain("it changed something: " + a.get(k) + ", without it " + b.get(k));
                return;
            }
        }
    }

    /** What is told outright comes first: what is asked behind it could hide what the call changed. */
    private List<String> ask() {
        askHouse("now");
        for (int what = 0; what <= 6; what++) {
            note("count " + what, x.count(what));
        }
        for (int k = 0; k < ASKS.size(); k++) {
            note("ask " + k, ASKS.get(k).on(x));
        }
        askDust();
        askSheets();
        for (int k = 0; k < 2; k++) {
            note("back " + k, x.back(k));
            askHouse("image " + k);
        }
        note("text", x.text());
        note("fault of the text", x.fault());
        askHouse("told");
        return answers;
    }

    private void note(String what, long answer) {
        answers.add(what + " -> " + answer);
    }

    private void askHouse(String when) {
        for (int what = 0; what <= 4; what++) {
            note(when + ": rule " + what, x.rule(what));
        }
        int steps = Math.min(x.rule(0), STEPS);
        int lodgers = Math.min(x.rule(1), LODGERS);
        for (int i = 0; i < steps; i++) {
            for (int what = 0; what <= 2; what++) {
                note(when + ": step " + i + " " + what, x.step(i, what));
            }
        }
        for (int p = 0; p < lodgers; p++) {
            for (int what = 0; what <= 3; what++) {
                note(when + ": lodger " + p + " " + what, x.lodger(p, what));
            }
        }
    }

    private void askDust() {
        for (int n = x.count(0); n > 0; n--) {
            note("fits by " + n, x.fits());
            note("forget", x.forget(n - 1));
        }
    }

    private void askSheets() {
        for (int k = 0; k < SHEETS; k++) {
            for (int lane = 0; lane < LANES; lane++) {
                for (int i = 0; i < FEW_CELLS; i++) {
                    String where = "sheet " + k + " lane " + lane + " cell " + i;
                    note(where, x.read(k, lane, i, 1));
                    note(where + ": all wear", x.count(5));
                }
                note("sheet " + k + " lane " + lane + ": torn", x.torn());
            }
            for (int i = 0; i <= FEW_CELLS; i++) {
                note("lay " + k + " " + i, x.lay(k, i, 0));
            }
        }
    }
}
