/** Promises 6 to 15, 18 to 22 and 46: changes of the design, undo, slots and counts. */
public final class DesignTest {
    private static final int BAD = -1, STATE = -2, FULL = -3, CLASH = -4, NONE = -9;
    private static final Due due = new Due();

    public static void main(String[] args) {
        sheet();
        base();
        adding();
        addingClashes();
        removing();
        angles();
        sizes();
        flaps();
        images();
        limitsAndWeights();
        undoing();
        undoingEach();
        slots();
        counts();
        due.end();
    }

    private static DieLineChecker withBase(int x, int y, int width, int height) {
        DieLineChecker made = new DieLineChecker();
        due.is("setBase", made.setBase(x, y, width, height), 0);
        return made;
    }

    private static void sheet() {
        DieLineChecker x = new DieLineChecker();
        due.is("6 setSheet", x.setSheet(20, 300), 200);
        due.is("6 setSheet again", x.setSheet(300, 20), 20);
        due.is("6 narrow", x.setSheet(19, 20), BAD);
        due.is("6 wide", x.setSheet(301, 20), BAD);
        due.is("6 low", x.setSheet(20, 19), BAD);
        due.is("6 high", x.setSheet(20, 301), BAD);
        due.is("6 acts", x.count(1), 2);
        due.is("6 nothing changed", x.setSheet(100, 80), 300);
        x.setBase(60, 50, 30, 20);
        due.is("6 panel at the border", x.setSheet(90, 70), 100);
        due.is("6 too narrow", x.setSheet(89, 70), CLASH);
        due.is("6 too low", x.setSheet(90, 69), CLASH);
        due.is("6 BAD before CLASH", x.setSheet(19, 69), BAD);
        due.is("6 still", x.setSheet(90, 70), 90);
    }

    private static void base() {
        DieLineChecker x = new DieLineChecker();
        due.is("7 x below", x.setBase(-1, 0, 1, 1), BAD);
        due.is("7 y below", x.setBase(0, -1, 1, 1), BAD);
        due.is("7 no width", x.setBase(0, 0, 0, 1), BAD);
        due.is("7 no height", x.setBase(0, 0, 1, 0), BAD);
        due.is("7 x above", x.setBase(301, 0, 1, 1), BAD);
        due.is("7 y above", x.setBase(0, 301, 1, 1), BAD);
        due.is("7 wide", x.setBase(0, 0, 301, 1), BAD);
        due.is("7 high", x.setBase(0, 0, 1, 301), BAD);
        due.is("7 out of the sheet", x.setBase(300, 0, 300, 1), CLASH);
        due.is("7 great numbers", x.setBase(Integer.MAX_VALUE, 0, Integer.MAX_VALUE, 1), BAD);
        due.is("7 nothing", x.count(1), 0);
        due.is("7 at the border", x.setBase(199, 199, 1, 1), 0);
        due.is("7 beyond the border", x.setBase(199, 199, 2, 1), CLASH);
        x.setBase(50, 50, 20, 20);
        x.addPanel(0, 1, 0, 20, 5, 1);
        x.setFlap(1, 0);
        x.defineImage(0, 5, 5);
        x.place(0, 0, 0, 0, 0);
        due.is("7 replaces", x.setBase(10, 11, 12, 13), 2);
        due.is("7 panels", x.count(0), 1);
        due.is("7 flaps", x.count(5), 0);
        due.is("7 images stay defined", x.count(6), 1);
        due.is("7 without an image", x.clearImage(0), STATE);
        due.is("7 x", x.flat(0, 0), 10);
        due.is("7 height", x.flat(0, 3), 13);
        due.is("7 undo", x.undo(), 6);
        due.is("7 panels are back", x.count(0), 2);
        due.is("7 image is back", x.clearImage(0), 0);
    }

    private static void adding() {
        DieLineChecker x = new DieLineChecker();
        due.is("8 no parent", x.addPanel(0, 0, 0, 1, 1, 0), BAD);
        x.setBase(50, 60, 20, 10);
        due.is("8 parent", x.addPanel(1, 0, 0, 1, 1, 0), BAD);
        due.is("8 parent below", x.addPanel(-1, 0, 0, 1, 1, 0), BAD);
        due.is("8 side below", x.addPanel(0, -1, 0, 1, 1, 0), BAD);
        due.is("8 side above", x.addPanel(0, 4, 0, 1, 1, 0), BAD);
        due.is("8 offset below", x.addPanel(0, 0, -1, 1, 1, 0), BAD);
        due.is("8 offset above", x.addPanel(0, 0, 301, 1, 1, 0), BAD);
        due.is("8 length below", x.addPanel(0, 0, 0, 0, 1, 0), BAD);
        due.is("8 length above", x.addPanel(0, 0, 0, 301, 1, 0), BAD);
        due.is("8 depth below", x.addPanel(0, 0, 0, 1, 0, 0), BAD);
        due.is("8 depth above", x.addPanel(0, 0, 0, 1, 301, 0), BAD);
        due.is("8 angle below", x.addPanel(0, 0, 0, 1, 1, -2), BAD);
        due.is("8 angle above", x.addPanel(0, 0, 0, 1, 1, 3), BAD);
        due.is("8 south", x.addPanel(0, 0, 3, 4, 5, -1), 1);
        due.is("8 east", x.addPanel(0, 1, 3, 4, 5, 0), 2);
        due.is("8 north", x.addPanel(0, 2, 3, 4, 5, 1), 3);
        due.is("8 west", x.addPanel(0, 3, 3, 4, 5, 2), 4);
        int[][] rects = {{50, 60, 20, 10}, {53, 55, 4, 5}, {70, 63, 5, 4}, {53, 70, 4, 5}, {45, 63, 5, 4}};
        for (int i = 0; i < 5; i++) {
            for (int what = 0; what < 4; what++) {
                due.is("8 flat(" + i + ", " + what + ")", x.flat(i, what), rects[i][what]);
            }
        }
        due.is("8 no flap", x.count(5), 0);
        due.is("8 no image", x.clearImage(4), STATE);
        for (int i = 5; i < 10; i++) {
            due.is("8 panel " + i, x.addPanel(i - 1, 3, 0, 4, 1, 0), i);
        }
        due.is("8 full", x.addPanel(9, 3, 0, 4, 1, 0), FULL);
        due.is("8 FULL before CLASH", x.addPanel(0, 0, 0, 300, 1, 0), FULL);
        due.is("8 BAD before FULL", x.addPanel(0, 4, 0, 4, 1, 0), BAD);
        due.is("8 panels", x.count(0), 10);
    }

    private static void addingClashes() {
        DieLineChecker x = withBase(10, 10, 20, 10);
        due.is("8 longer than the side", x.addPanel(0, 0, 0, 21, 1, 0), CLASH);
        due.is("8 beyond the side", x.addPanel(0, 1, 1, 10, 1, 0), CLASH);
        due.is("8 below the sheet", x.addPanel(0, 0, 0, 20, 11, 0), CLASH);
        due.is("8 left of the sheet", x.addPanel(0, 3, 0, 10, 11, 0), CLASH);
        due.is("8 touches the sheet", x.addPanel(0, 0, 0, 20, 10, 0), 1);
        due.is("8 on another panel", x.addPanel(0, 0, 19, 1, 1, 0), CLASH);
        due.is("8 on the parent of the parent", x.addPanel(1, 2, 0, 5, 1, 0), CLASH);
        due.is("8 above the sheet", x.addPanel(0, 2, 0, 20, 181, 0), CLASH);
        due.is("8 up to the sheet", x.addPanel(0, 2, 0, 10, 180, 0), 2);
        due.is("8 beside a panel", x.addPanel(0, 2, 10, 10, 180, 0), 3);
        due.is("8 right of the sheet", x.addPanel(3, 1, 0, 10, 171, 0), CLASH);
        due.is("8 acts", x.count(1), 4);
    }

    private static void removing() {
        DieLineChecker x = new DieLineChecker();
        due.is("9 nothing", x.removeLast(), STATE);
        x.setBase(50, 50, 20, 20);
        x.addPanel(0, 1, 0, 20, 5, 1);
        x.addPanel(1, 1, 0, 20, 5, 1);
        x.setFlap(1, 2);
        due.is("9 target of a flap", x.removeLast(), STATE);
        due.is("9 nothing changed", x.count(0), 3);
        x.setFlap(1, 0);
        x.setFlap(2, 1);
        due.is("9 a flap", x.removeLast(), 2);
        due.is("9 another flap", x.removeLast(), 1);
        due.is("9 base", x.removeLast(), 0);
        due.is("9 none left", x.removeLast(), STATE);
        due.is("9 acts", x.count(1), 9);
        due.is("9 undo", x.undo(), 8);
        due.is("9 undo 2", x.undo(), 7);
        due.is("9 flap is back", x.count(5), 1);
    }

    private static void angles() {
        DieLineChecker x = withBase(50, 50, 20, 20);
        x.addPanel(0, 1, 0, 20, 5, -1);
        due.is("10 base", x.setAngle(0, 1), BAD);
        due.is("10 no panel", x.setAngle(2, 1), BAD);
        due.is("10 below", x.setAngle(1, -2), BAD);
        due.is("10 above", x.setAngle(1, 3), BAD);
        due.is("10 acts", x.count(1), 2);
        due.is("10 from -1", x.setAngle(1, 0), -1);
        due.is("10 from 0", x.setAngle(1, 2), 0);
        due.is("10 from 2", x.setAngle(1, 1), 2);
        due.is("10 the same", x.setAngle(1, 1), 1);
        due.is("10 acts then", x.count(1), 6);
        due.is("10 facing", x.facing(1), 0);
        due.is("10 undo", x.undo(), 5);
        due.is("10 undo 2", x.undo(), 4);
        due.is("10 angle is back", x.setAngle(1, 0), 2);
    }

    private static void sizes() {
        DieLineChecker x = withBase(50, 50, 20, 20);
        x.addPanel(0, 1, 2, 10, 5, 1);
        x.addPanel(1, 2, 1, 3, 4, 1);
        due.is("11 base", x.setSize(0, 0, 1), BAD);
        due.is("11 no panel", x.setSize(3, 0, 1), BAD);
        due.is("11 what below", x.setSize(1, -1, 1), BAD);
        due.is("11 what above", x.setSize(1, 3, 1), BAD);
        due.is("11 offset below", x.setSize(1, 0, -1), BAD);
        due.is("11 offset above", x.setSize(1, 0, 301), BAD);
        due.is("11 length below", x.setSize(1, 1, 0), BAD);
        due.is("11 length above", x.setSize(1, 1, 301), BAD);
        due.is("11 depth below", x.setSize(1, 2, 0), BAD);
        due.is("11 depth above", x.setSize(1, 2, 301), BAD);
        due.is("11 offset beyond the side", x.setSize(1, 0, 11), CLASH);
        due.is("11 length beyond the side", x.setSize(1, 1, 19), CLASH);
        due.is("11 depth beyond the sheet", x.setSize(1, 2, 131), CLASH);
        due.is("11 child longer than the side", x.setSize(1, 2, 3), CLASH);
        due.is("11 nothing moved", x.flat(2, 0), 71);
        due.is("11 acts", x.count(1), 3);
        due.is("11 offset", x.setSize(1, 0, 0), 2);
        due.is("11 child moves down", x.flat(2, 1), 60);
        due.is("11 length", x.setSize(1, 1, 12), 10);
        due.is("11 child moves up", x.flat(2, 1), 62);
        due.is("11 depth", x.setSize(1, 2, 6), 5);
        due.is("11 width", x.flat(1, 2), 6);
        due.is("11 child stays", x.flat(2, 0), 71);
        due.is("11 child offset", x.setSize(2, 0, 3), 1);
        due.is("11 child moves", x.flat(2, 0), 73);
        due.is("11 undo", x.undo(), 6);
        due.is("11 undone", x.flat(2, 0), 71);
        x.addPanel(0, 2, 0, 20, 5, 1);
        x.addPanel(3, 1, 0, 5, 10, 1);
        due.is("11 panels would overlap", x.setSize(1, 1, 20), CLASH);
    }

    private static void flaps() {
        DieLineChecker x = withBase(50, 50, 20, 20);
        x.addPanel(0, 1, 0, 20, 5, 1);
        x.addPanel(1, 1, 0, 20, 5, 1);
        due.is("12 base", x.setFlap(0, 1), BAD);
        due.is("12 no panel", x.setFlap(3, 1), BAD);
        due.is("12 itself", x.setFlap(1, 1), BAD);
        due.is("12 no target", x.setFlap(1, 3), BAD);
        due.is("12 target -1", x.setFlap(1, -1), BAD);
        due.is("12 base to none", x.setFlap(0, NONE), BAD);
        due.is("12 flap", x.setFlap(1, 2), NONE);
        due.is("12 other target", x.setFlap(1, 0), 2);
        due.is("12 no flap any more", x.setFlap(1, NONE), 0);
        due.is("12 again", x.setFlap(1, NONE), NONE);
        due.is("12 acts", x.count(1), 7);
        due.is("12 undo", x.undo(), 6);
        due.is("12 undo 2", x.undo(), 5);
        due.is("12 flaps", x.count(5), 1);
        due.is("12 target is back", x.setFlap(1, 2), 0);
    }

    private static void images() {
        DieLineChecker x = withBase(50, 50, 20, 20);
        due.is("13 image below", x.defineImage(-1, 1, 1), BAD);
        due.is("13 image above", x.defineImage(4, 1, 1), BAD);
        due.is("13 width below", x.defineImage(0, 0, 1), BAD);
        due.is("13 width above", x.defineImage(0, 201, 1), BAD);
        due.is("13 height below", x.defineImage(0, 1, 0), BAD);
        due.is("13 height above", x.defineImage(0, 1, 201), BAD);
        due.is("14 not defined", x.place(0, 3, 0, 0, 0), STATE);
        due.is("13 image", x.defineImage(3, 200, 1), 0);
        due.is("13 again", x.defineImage(3, 1, 200), 1);
        due.is("13 other", x.defineImage(0, 30, 40), 0);
        due.is("14 no panel", x.place(1, 3, 0, 0, 0), BAD);
        due.is("14 image below", x.place(0, -1, 0, 0, 0), BAD);
        due.is("14 image above", x.place(0, 4, 0, 0, 0), BAD);
        due.is("14 orientation below", x.place(0, 3, -1, 0, 0), BAD);
        due.is("14 orientation above", x.place(0, 3, 8, 0, 0), BAD);
        due.is("14 px below", x.place(0, 3, 0, -301, 0), BAD);
        due.is("14 px above", x.place(0, 3, 0, 301, 0), BAD);
        due.is("14 py below", x.place(0, 3, 0, 0, -301), BAD);
        due.is("14 py above", x.place(0, 3, 0, 0, 301), BAD);
        due.is("14 BAD before STATE", x.place(0, 1, 8, 0, 0), BAD);
        due.is("14 undefined", x.place(0, 1, 7, 0, 0), STATE);
        due.is("15 none yet", x.clearImage(0), STATE);
        due.is("15 no panel", x.clearImage(1), BAD);
        due.is("14 acts", x.count(1), 4);
        due.is("14 place", x.place(0, 3, 7, -300, 300), NONE);
        due.is("14 in place of it", x.place(0, 0, 0, -2, -3), 3);
        due.is("14 its u", x.imageAt(0, 0, 0, 0), 2);
        due.is("14 its v", x.imageAt(0, 0, 0, 1), 3);
        due.is("14 its reach", x.reach(0, 1), 8);
        due.is("13 placements stay", x.defineImage(0, 31, 40), 1);
        due.is("13 reach follows", x.reach(0, 1), 9);
        due.is("15 clear", x.clearImage(0), 0);
        due.is("15 cleared", x.imageAt(0, 0, 0, 0), NONE);
        due.is("15 undo", x.undo(), 7);
        due.is("15 image is back", x.imageAt(0, 0, 0, 1), 3);
        due.is("13 undo", x.undo(), 6);
        due.is("13 width is back", x.reach(0, 1), 8);
    }

    private static void limitsAndWeights() {
        DieLineChecker x = new DieLineChecker();
        due.is("18 which below", x.setLimit(-1, 1), BAD);
        due.is("18 which above", x.setLimit(4, 1), BAD);
        for (int which = 0; which < 4; which++) {
            int most = which == 3 ? 100 : 20;
            due.is("18 value below", x.setLimit(which, -1), BAD);
            due.is("18 value above", x.setLimit(which, most + 1), BAD);
            due.is("18 first", x.setLimit(which, most), new int[] {1, 3, 2, 80}[which]);
            due.is("18 second", x.setLimit(which, 0), most);
            due.is("18 undo", x.undo(), which + 1);
            due.is("18 undone", x.count(1), which + 1);
        }
        due.is("18 stays", x.setLimit(1, 4), 20);
        due.is("19 kind below", x.setWeight(-1, 1), BAD);
        due.is("19 kind above", x.setWeight(8, 1), BAD);
        due.is("19 weight below", x.setWeight(0, -1), BAD);
        due.is("19 weight above", x.setWeight(0, 10), BAD);
        for (int kind = 0; kind < 8; kind++) {
            due.is("19 first", x.setWeight(kind, 9), 1);
            due.is("19 second", x.setWeight(kind, 0), 9);
            x.undo();
        }
        due.is("19 stays", x.setWeight(7, 5), 9);
        due.is("19 undo", x.undo(), 11);
        due.is("19 undone", x.setWeight(7, 5), 9);
    }

    private static void undoing() {
        DieLineChecker x = withBase(50, 50, 20, 20);
        for (int i = 1; i <= 14; i++) {
            x.setWeight(0, i % 10);
        }
        due.is("20 at most 12", x.count(1), 12);
        for (int left = 11; left >= 0; left--) {
            due.is("20 undo", x.undo(), left);
        }
        due.is("20 no more", x.undo(), STATE);
        due.is("20 base stays", x.count(0), 1);
        due.is("20 the third act", x.setWeight(0, 0), 2);
        due.is("20 a new act", x.count(1), 1);
        due.is("20 failed calls are no acts", x.setWeight(0, 10), BAD);
        due.is("20 queries are no acts", x.findingCount(), 0);
        due.is("20 one", x.count(1), 1);
    }

    private static void undoingEach() {
        DieLineChecker x = withBase(50, 50, 20, 20);
        x.addPanel(0, 1, 0, 20, 5, 1);
        x.addPanel(0, 2, 0, 20, 6, 1);
        x.defineImage(0, 60, 60);
        x.place(0, 0, 0, -20, -20);
        x.setSheet(150, 160);
        due.is("20 sheet", x.undo(), 5);
        due.is("20 sheet is back", x.setSheet(150, 160), 200);
        due.is("20 spread", x.spreadImage(0), 2);
        due.is("20 spread undone", x.undo(), 6);
        due.is("20 no image on 1", x.imageAt(1, 0, 0, 0), NONE);
        due.is("20 no image on 2", x.imageAt(2, 0, 0, 0), NONE);
        due.is("20 image on 0", x.imageAt(0, 0, 0, 0), 20);
        due.is("20 continue", x.continueImage(0, false), 0);
        due.is("20 image on 1", x.imageAt(1, 0, 0, 0), 40);
        due.is("20 continue undone", x.undo(), 6);
        due.is("20 no image on 1 again", x.imageAt(1, 0, 0, 0), NONE);
        x.removeLast();
        due.is("20 remove undone", x.undo(), 6);
        due.is("20 panel is back", x.flat(2, 3), 6);
    }

    private static void slots() {
        DieLineChecker x = withBase(50, 50, 20, 20);
        due.is("21 slot below", x.save(-1), BAD);
        due.is("21 slot above", x.save(2), BAD);
        due.is("22 slot below", x.restore(-1), BAD);
        due.is("22 slot above", x.restore(2), BAD);
        due.is("22 empty", x.restore(1), STATE);
        x.addPanel(0, 1, 0, 20, 5, 1);
        x.setFlap(1, 0);
        x.defineImage(2, 30, 30);
        x.place(1, 2, 5, 6, 7);
        x.setSheet(140, 150);
        int u = x.imageAt(1, 0, 0, 0);
        due.is("21 save", x.save(1), 2);
        due.is("21 no act", x.count(1), 6);
        due.is("21 slots", x.count(2), 1);
        x.setLimit(0, 9);
        x.setWeight(1, 8);
        x.setBase(0, 0, 1, 1);
        x.defineImage(3, 1, 1);
        x.setSheet(20, 20);
        due.is("21 save other", x.save(0), 1);
        due.is("22 restore", x.restore(1), 2);
        due.is("22 flap", x.count(5), 1);
        due.is("22 images", x.count(6), 1);
        due.is("22 placement", x.imageAt(1, 0, 0, 0), u);
        due.is("22 sheet", x.setSheet(140, 140), 140);
        due.is("22 limits stay", x.setLimit(0, 1), 9);
        due.is("22 weights stay", x.setWeight(1, 1), 8);
        x.undo();
        x.undo();
        x.undo();
        due.is("22 undo", x.undo(), 8);
        due.is("22 undone", x.count(0), 1);
        due.is("22 slot keeps it", x.restore(1), 2);
        x.setAngle(1, 2);
        due.is("22 slot is not touched", x.restore(1), 2);
        due.is("22 angle", x.setAngle(1, 2), 1);
        due.is("21 in place of what it had", x.save(0), 2);
        due.is("22 the new one", x.restore(0), 2);
        due.is("22 the new angle", x.setAngle(1, 0), 2);
        DieLineChecker y = new DieLineChecker();
        due.is("21 save nothing", y.save(0), 0);
        y.setBase(1, 1, 5, 5);
        due.is("22 restore nothing", y.restore(0), 0);
        due.is("21 undo keeps slots", y.undo(), 1);
        due.is("21 slots then", y.count(2), 1);
    }

    private static void counts() {
        DieLineChecker x = withBase(50, 50, 20, 20);
        x.addPanel(0, 0, 0, 20, 5, 1);
        x.addPanel(0, 1, 0, 20, 5, 0);
        x.addPanel(0, 2, 0, 20, 5, -1);
        x.addPanel(0, 3, 0, 20, 5, 2);
        x.setFlap(1, 0);
        x.setFlap(2, 0);
        x.defineImage(3, 5, 5);
        x.save(0);
        x.save(1);
        x.type(65);
        int[] counts = {5, 8, 2, 1, 3, 2, 1};
        for (int what = 0; what < 7; what++) {
            due.is("46 count(" + what + ")", x.count(what), counts[what]);
        }
        due.is("46 below", x.count(-1), BAD);
        due.is("46 above", x.count(7), BAD);
    }
}
