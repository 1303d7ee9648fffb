/** Promises 23 to 27: the flat design. */
public final class FlatTest {
    private static final int BAD = -1, STATE = -2;
    private static final Due due = new Due();

    public static void main(String[] args) {
        flat();
        cuts();
        pitches();
        rows();
        due.end();
    }

    private static void flat() {
        DieLineChecker x = new DieLineChecker();
        due.is("23 no panel", x.flat(0, 0), BAD);
        x.setBase(40, 50, 20, 10);
        x.addPanel(0, 3, 2, 7, 15, 2);
        int[] values = {25, 52, 15, 7};
        for (int what = 0; what < 4; what++) {
            due.is("23 flat(1, " + what + ")", x.flat(1, what), values[what]);
        }
        due.is("23 what below", x.flat(1, -1), BAD);
        due.is("23 what above", x.flat(1, 4), BAD);
        due.is("23 panel below", x.flat(-1, 0), BAD);
        due.is("23 panel above", x.flat(2, 0), BAD);
    }

    private static void cuts() {
        DieLineChecker x = new DieLineChecker();
        due.is("24 nothing", x.cutLength(), 0);
        due.is("25 nothing", x.creaseLength(), 0);
        x.setBase(20, 20, 20, 10);
        due.is("24 base", x.cutLength(), 60);
        x.addPanel(0, 2, 0, 10, 5, 1);
        due.is("24 one fold", x.cutLength(), 70);
        due.is("25 one fold", x.creaseLength(), 10);
        x.addPanel(0, 2, 10, 10, 5, 0);
        // The two panels share the line from (30, 30) to (30, 35), which is a cut and counted once.
        due.is("24 a common line", x.cutLength(), 75);
        due.is("25 a fold with the angle 0", x.creaseLength(), 10);
        x.setAngle(2, -1);
        due.is("25 both folds", x.creaseLength(), 20);
        x.setAngle(1, 2);
        due.is("25 angle 2", x.creaseLength(), 20);
        x.setSize(2, 2, 8);
        due.is("24 a partly common line", x.cutLength(), 81);
        x.addPanel(2, 3, 5, 3, 10, 1);
        // Panel 3 lies on panel 1 (10 units in common, once) and hangs on panel 2.
        due.is("24 a ring of panels", x.cutLength(), 81 + 2 * 13 - 2 * 3 - 10);
    }

    private static void pitches() {
        DieLineChecker x = new DieLineChecker();
        due.is("26 no panels", x.pitch(0, 0, false), STATE);
        due.is("26 BAD before STATE", x.pitch(2, 0, false), BAD);
        x.setBase(20, 20, 20, 10);
        due.is("26 axis below", x.pitch(-1, 0, false), BAD);
        due.is("26 axis above", x.pitch(2, 0, false), BAD);
        due.is("26 gap below", x.pitch(0, -1, false), BAD);
        due.is("26 gap above", x.pitch(0, 51, false), BAD);
        due.is("26 base", x.pitch(0, 0, false), 20);
        due.is("26 base in y", x.pitch(1, 0, false), 10);
        due.is("26 gap", x.pitch(0, 7, false), 27);
        due.is("26 greatest gap", x.pitch(1, 50, true), 60);
        // An L: the copies can go into one another.
        x.addPanel(0, 2, 0, 5, 30, 1);
        due.is("26 L in x", x.pitch(0, 0, false), 20);
        due.is("26 L in y", x.pitch(1, 0, false), 40);
        // Turned, the base is at x 20 to 40, y 50 to 60, and the arm at x 35 to 40, y 20 to 50.
        // In x each arm, 5 wide, must come off the other one's base; in y each base, 10 high.
        due.is("26 L turned in x", x.pitch(0, 0, true), 5);
        due.is("26 L turned in x with a gap", x.pitch(0, 2, true), 7);
        due.is("26 L turned in y", x.pitch(1, 0, true), 10);
        due.is("26 L turned in y with a gap", x.pitch(1, 3, true), 13);
        x.setBase(0, 0, 200, 200);
        due.is("26 whole sheet", x.pitch(0, 50, false), 250);
        x.setBase(0, 0, 1, 1);
        x.setSheet(300, 300);
        x.setBase(0, 0, 300, 300);
        due.is("26 greatest sheet", x.pitch(1, 50, false), 350);
        due.is("26 greatest sheet turned", x.pitch(1, 50, true), 350);
        x.setBase(10, 10, 1, 1);
        due.is("26 at least 1", x.pitch(0, 0, false), 1);
    }

    private static void rows() {
        DieLineChecker x = new DieLineChecker();
        due.is("27 no panels", x.rowCount(0, 0), STATE);
        due.is("27 BAD before STATE", x.rowCount(0, 51), BAD);
        x.setBase(20, 20, 20, 10);
        due.is("27 axis below", x.rowCount(-1, 0), BAD);
        due.is("27 axis above", x.rowCount(2, 0), BAD);
        due.is("27 gap below", x.rowCount(0, -1), BAD);
        due.is("27 in x", x.rowCount(0, 0), 10);
        due.is("27 in y", x.rowCount(1, 0), 20);
        due.is("27 with a gap", x.rowCount(0, 1), 9);
        // 180 = 7 * 25 + 5
        due.is("27 rounded down", x.rowCount(0, 5), 8);
        x.setSheet(200, 30);
        due.is("27 sheet", x.rowCount(1, 0), 3);
        x.setBase(0, 0, 200, 30);
        due.is("27 one", x.rowCount(0, 0), 1);
    }
}
