import java.util.ArrayList;
import java.util.List;

/**
 * Runs of calls that tell, by their answers, all that an object holds. Each run is for an object of its own, since
 * an object is used for 512 calls only.
 */
final class Later {
    interface Run {
        void on(DieLineChecker x, Later told);
    }

    static final List<Run> RUNS = List.of(Later::flat, Later::folded, Later::seams, Later::images, Later::findings,
        Later::best, Later::undone, Later::settings, Later::slots, Later::text, Later::acts);

    /** The first runs only ask: they tell the design, but not what undo() and the slots would bring. */
    static final int QUERIES = 6;

    private final List<String> lines = new ArrayList<>();

    static List<String> answers(int run, DieLineChecker x) {
        Later told = new Later();
        RUNS.get(run).on(x, told);
        return told.lines;
    }

    private void tell(String call, long... answers) {
        StringBuilder line = new StringBuilder(call);
        for (long answer : answers) {
            line.append(' ').append(answer);
        }
        lines.add(line.toString());
    }

    private static void counts(DieLineChecker x, Later told) {
        for (int what = 0; what <= 6; what++) {
            told.tell("count " + what, x.count(what));
        }
    }

    private static void rectangles(DieLineChecker x, Later told) {
        for (int p = 0; p < 10; p++) {
            told.tell("flat " + p, x.flat(p, 0), x.flat(p, 1), x.flat(p, 2), x.flat(p, 3));
        }
    }

    private static void flat(DieLineChecker x, Later told) {
        counts(x, told);
        rectangles(x, told);
        told.tell("faultKind", x.faultKind());
        told.tell("lengths", x.cutLength(), x.creaseLength());
        for (int axis = 0; axis < 2; axis++) {
            told.tell("pitch " + axis, x.pitch(axis, 0, false), x.pitch(axis, 3, true));
            told.tell("rowCount " + axis, x.rowCount(axis, 0), x.rowCount(axis, 7));
        }
    }

    private static void folded(DieLineChecker x, Later told) {
        for (int p = 0; p < 10; p++) {
            for (int axis = 0; axis < 3; axis++) {
                told.tell("corner " + p + " " + axis, x.corner(p, 0, axis), x.corner(p, 2, axis));
            }
            told.tell("facing " + p, x.facing(p));
            told.tell("coverage " + p, x.coverage(p));
            told.tell("foldStep " + p, x.foldStep(p));
        }
        told.tell("volume", x.volume());
        told.tell("leastTolerance", x.leastTolerance());
        told.tell("crossings", x.crossings(6), x.crossings(14));
    }

    private static void seams(DieLineChecker x, Later told) {
        int seams = x.seamCount();
        told.tell("seamCount", seams);
        for (int k = 0; k < seams && k < 30; k++) {
            for (int what = 0; what <= 7; what++) {
                told.tell("seam " + k + " " + what, x.seam(k, what));
            }
        }
        for (int p = 0; p < 10; p++) {
            told.tell("openLength " + p, x.openLength(p, 0), x.openLength(p, 1), x.openLength(p, 2), x.openLength(p, 3));
        }
    }

    private static void images(DieLineChecker x, Later told) {
        for (int p = 0; p < 10; p++) {
            told.tell("imageAt " + p, x.imageAt(p, 0, 0, 0), x.imageAt(p, 0, 0, 1), x.imageAt(p, 7, 3, 0), x.imageAt(p, 7, 3, 1));
            told.tell("reach " + p, x.reach(p, 0), x.reach(p, 1), x.reach(p, 2), x.reach(p, 3));
        }
    }

    private static void findings(DieLineChecker x, Later told) {
        int findings = x.findingCount();
        told.tell("findingCount", findings);
        for (int k = 0; k < findings && k < 40; k++) {
            for (int what = 0; what <= 5; what++) {
                told.tell("finding " + k + " " + what, x.finding(k, what));
            }
        }
        told.tell("totalCost", x.totalCost());
        for (int p = 0; p < 10; p++) {
            told.tell("panelCost " + p, x.panelCost(p));
        }
    }

    private static void best(DieLineChecker x, Later told) {
        told.tell("bestDepth", x.bestDepth(1), x.bestDepth(2));
        for (int p = 1; p < 5; p++) {
            told.tell("bestAngle " + p, x.bestAngle(p));
        }
    }

    private static void undone(DieLineChecker x, Later told) {
        for (int i = 0; i < 13; i++) {
            told.tell("undo " + i, x.undo());
            told.tell("counts then", x.count(0), x.count(1), x.count(4), x.count(5), x.count(6));
            told.tell("panels then", x.flat(0, 0), x.flat(1, 2), x.flat(2, 3), x.flat(4, 2));
            told.tell("images then", x.imageAt(0, 0, 0, 0), x.imageAt(4, 0, 0, 1));
            told.tell("costs then", x.totalCost(), x.rowCount(0, 0), x.rowCount(1, 0));
        }
    }

    private static void settings(DieLineChecker x, Later told) {
        for (int which = 0; which < 4; which++) {
            told.tell("setLimit " + which, x.setLimit(which, 9));
        }
        for (int kind = 0; kind < 8; kind++) {
            told.tell("setWeight " + kind, x.setWeight(kind, 3));
        }
        for (int image = 0; image < 4; image++) {
            told.tell("defineImage " + image, x.defineImage(image, 4, 4));
        }
        // With a base of 1 by 1 as many copies as the sheet has units lie in a row.
        told.tell("setBase", x.setBase(0, 0, 1, 1));
        told.tell("sheet", x.rowCount(0, 0), x.rowCount(1, 0));
    }

    private static void slots(DieLineChecker x, Later told) {
        for (int slot = 0; slot < 2; slot++) {
            told.tell("restore " + slot, x.restore(slot));
            counts(x, told);
            rectangles(x, told);
            told.tell("images", x.imageAt(0, 0, 0, 0), x.imageAt(1, 0, 0, 0), x.imageAt(4, 0, 0, 1));
            told.tell("totalCost", x.totalCost());
        }
        told.tell("undo", x.undo(), x.undo(), x.count(0));
    }

    private static void text(DieLineChecker x, Later told) {
        told.tell("faultKind", x.faultKind());
        told.tell("load", x.load(), x.faultKind());
        told.tell("type", x.type(59), x.load(), x.faultKind(), x.count(3));
        counts(x, told);
        rectangles(x, told);
        told.tell("clearText", x.clearText(), x.load(), x.faultKind(), x.count(0));
    }

    private static void acts(DieLineChecker x, Later told) {
        told.tell("addPanel", x.addPanel(0, 3, 0, 2, 2, 1), x.addPanel(0, 0, 0, 2, 2, -1));
        told.tell("setAngle", x.setAngle(1, 2), x.setAngle(2, -1));
        told.tell("setSize", x.setSize(1, 0, 1), x.setSize(1, 1, 2), x.setSize(1, 2, 3));
        told.tell("setFlap", x.setFlap(1, 0), x.setFlap(2, -9));
        told.tell("defineImage", x.defineImage(1, 40, 40));
        told.tell("place", x.place(0, 1, 5, -9, -9), x.place(1, 0, 5, -9, -9));
        told.tell("continueImage", x.continueImage(0, false), x.continueImage(1, true));
        told.tell("spreadImage", x.spreadImage(0));
        told.tell("clearImage", x.clearImage(0), x.clearImage(1));
        told.tell("removeLast", x.removeLast());
        told.tell("setSheet", x.setSheet(222, 188), x.count(1));
        images(x, told);
        told.tell("costs", x.totalCost(), x.findingCount(), x.seamCount());
        told.tell("save", x.save(0), x.save(1), x.count(2));
        told.tell("undo", x.undo(), x.undo(), x.undo(), x.totalCost());
    }
}
