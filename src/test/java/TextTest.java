/** Promises 1 to 5: a new object, and designs read from texts. */
public final class TextTest {
    private static final int BAD = -1, STATE = -2, FULL = -3, CLASH = -4, NONE = -9;
    private static final Due due = new Due();

    public static void main(String[] args) {
        newObject();
        typing();
        texts();
        texts2();
        whatTextsMake();
        whatStays();
        due.end();
    }

    private static void newObject() {
        DieLineChecker x = new DieLineChecker();
        for (int what = 0; what <= 6; what++) {
            due.is("1 count(" + what + ")", x.count(what), 0);
        }
        due.is("1 flat", x.flat(0, 0), BAD);
        due.is("1 undo", x.undo(), STATE);
        due.is("1 restore(0)", x.restore(0), STATE);
        due.is("1 restore(1)", x.restore(1), STATE);
        due.is("1 faultKind", x.faultKind(), 0);
        due.is("1 clearText", x.clearText(), 0);
        due.is("1 sheet height", x.setBase(0, 0, 200, 201), CLASH);
        due.is("1 sheet width", x.setBase(0, 0, 201, 200), CLASH);
        due.is("1 sheet", x.setBase(0, 0, 200, 200), 0);
        due.is("1 place", x.place(0, 0, 0, 0, 0), STATE);
        due.is("1 tolerance", x.setLimit(0, 0), 1);
        due.is("1 bleed", x.setLimit(1, 0), 3);
        due.is("1 glue bleed", x.setLimit(2, 0), 2);
        due.is("1 coverage", x.setLimit(3, 0), 80);
        for (int kind = 0; kind < 8; kind++) {
            due.is("1 weight " + kind, x.setWeight(kind, 0), 1);
        }
    }

    private static void typing() {
        DieLineChecker x = new DieLineChecker();
        due.is("2 type(-1)", x.type(-1), BAD);
        due.is("2 type(128)", x.type(128), BAD);
        due.is("2 type(MIN)", x.type(Integer.MIN_VALUE), BAD);
        due.is("2 type(0)", x.type(0), 1);
        due.is("2 type(127)", x.type(127), 2);
        due.is("2 count", x.count(3), 2);
        for (int i = 3; i <= 160; i++) {
            due.is("2 type " + i, x.type(32), i);
        }
        due.is("2 full", x.type(32), FULL);
        due.is("2 BAD goes before FULL", x.type(128), BAD);
        due.is("2 count full", x.count(3), 160);
        due.is("2 no act", x.count(1), 0);
        due.is("3 clearText", x.clearText(), 160);
        due.is("3 clearText again", x.clearText(), 0);
        due.is("3 type", x.type(32), 1);
    }

    private static void reading(String text, int answer, int kind) {
        DieLineChecker x = new DieLineChecker();
        due.write(x, text);
        due.is("4 load of '" + text + "'", x.load(), answer);
        due.is("5 faultKind of '" + text + "'", x.faultKind(), kind);
    }

    private static void texts() {
        reading("", 0, 0);
        reading("   ", 0, 0);
        reading("b1 1 9 9;", 1, 0);
        reading("  b 1 1  9 9 ;  ", 1, 0);
        reading("b1 1 9 9;b2 2 9 9;", 2, 0);
        reading("s020 020;", 1, 0);
        reading("s 20 20 ; s 30 30;", 2, 0);
        reading("b0 0 9 9;i0 5 5;a0 0 7-300-300;", 3, 0);
        reading("b-0 -00 9 9;", 1, 0);

        // kind 1
        reading("x", -10, 1);
        reading("S20 20;", -10, 1);
        reading("s20\t20;", -13, 1);
        reading("s20,20;", -13, 1);
        reading("+5", -10, 1);
        reading("-", -10, 1);
        reading("- 5", -10, 1);
        reading("--5", -10, 1);
        reading("b1 -;", -13, 1);
        reading("b1-b", -12, 1);
        reading("5555", -10, 1);
        reading("s0020 20;", -11, 1);
        reading("s-0020 20;", -11, 1);
        reading("s20 1000", -14, 1);
        reading("b1 1 9 9 9999;", -19, 1);
        reading("b1 1 9 9;;x", -19, 2);

        // kind 2
        reading(";", -10, 2);
        reading("5", -10, 2);
        reading(" -5", -11, 2);
        reading("bb", -11, 2);
        reading("b1 1 9 9 9;", -19, 2);
        reading("b1 1 9 9-9;", -18, 2);
        reading("b1 1 9 9s", -18, 2);
        reading("b1 1 9;", -16, 2);
        reading("b1 1 9 9", -18, 2);
        reading("b1 1 9 9  ", -20, 2);
        reading("b", -11, 2);
        reading("s20 20;s;", -18, 2);
        reading("f1 1 1;", -15, 2);
        reading("i1 1;", -14, 2);
        reading("a1 1 1 1;", -18, 2);
        reading("p1 1 1 1 1;", -20, 2);
        reading("p1 1 1 1 1 1 1;", -23, 2);
    }

    private static void texts2() {
        // kind 3
        reading("s19 20;", -16, 3);
        reading("s20 301;", -17, 3);
        reading("b 1-1 9 9;", -19, 3);
        reading("b199 0 2 1;", -20, 3);
        reading("p0 0 0 1 1 1;", -22, 3);
        reading("b0 0 9 9;p0 1 0 9 5 4;", -31, 3);
        reading("b0 0 9 9;p0 1 0 9 5 -1;", -32, 3);
        reading("b0 0 9 9;p0 1 0 9 5 3;", 2, 0);
        reading("b0 0 9 9;p0 3 0 9 5 0;", -31, 3);
        reading("b0 0 9 9;p0 1 0 9 5 1;f1 -9;", -37, 3);
        reading("b0 0 9 9;p0 1 0 9 5 1;f1 1;", -36, 3);
        reading("b0 0 9 9;p0 1 0 9 5 1;f1 2;", -36, 3);
        reading("b0 0 9 9;p0 1 0 9 5 1;f0 1;", -36, 3);
        reading("b0 0 9 9;p0 1 0 9 5 1;f1 0;", 3, 0);
        reading("i0 5 5;a0 0 0 0 0;", -27, 3);
        reading("b0 0 9 9;a0 0 0 0 0;", -29, 3);
        reading("b0 0 9 9;i0 5 5;a1 0 0 0 0;", -36, 3);
        reading("b0 0 9 9;i0 5 5;a0 4 0 0 0;", -36, 3);
        reading("b0 0 9 9;i0 5 5;a0 1 0 0 0;", -36, 3);
        reading("b0 0 9 9;i0 5 5;a0 0 8 0 0;", -36, 3);
        reading("b0 0 9 9;i0 5 5;a0 0 0 301 0;", -38, 3);
        reading("b0 0 9 9;i0 5 5;a0 0 0 0 301;", -38, 3);
        reading("b0 0 9 9;i0 5 5;a0 0 0 -301-301;", -41, 3);
        reading("b0 0 9 9;i0 5 5;a0 0 0 300-300;", 3, 0);
        reading("i4 5 5;", -16, 3);
        reading("i0 0 5;", -16, 3);
        reading("b100 1 9 9;s50 50;", -27, 3);
        reading("b100 1 9 9;s50 50;x", -27, 3);
    }

    private static void whatTextsMake() {
        DieLineChecker x = new DieLineChecker();
        due.write(x, "s150 90;b10 20 9 8;p0 1 0 8 5 3;p0 2 1 8 4 2;f2 0;i1 30 40;i3 5 5;a1 1 2 -4 -5;");
        due.is("4 load", x.load(), 8);
        due.is("4 panels", x.count(0), 3);
        due.is("4 flaps", x.count(5), 1);
        due.is("4 images", x.count(6), 2);
        due.is("4 angle 3 is -1", x.setAngle(1, 0), -1);
        due.is("4 angle 2", x.setAngle(2, 0), 2);
        due.is("4 target", x.setFlap(2, NONE), 0);
        due.is("4 x", x.flat(2, 0), 11);
        due.is("4 y", x.flat(2, 1), 28);
        due.is("4 width", x.flat(2, 2), 8);
        due.is("4 height", x.flat(2, 3), 4);
        // r = 2: u = 30 - (x + 4), v = 40 - (y + 5)
        due.is("4 u", x.imageAt(1, 0, 0, 0), 26);
        due.is("4 v", x.imageAt(1, 0, 0, 1), 35);
        due.is("4 sheet", x.setSheet(100, 100), 150);
        due.write(x, "i0 5 5;i1 5 5;i2 5 5;i3 5 5;");
        due.is("4 images alone", x.load(), 4);
        due.is("4 all of them", x.count(6), 4);
        due.is("4 no panels", x.count(0), 0);
        due.write(x, "b0 0 9 9;b1 1 8 8;");
        due.is("4 two bases", x.load(), 2);
        due.is("4 the second base", x.flat(0, 2), 8);
        due.is("4 no images", x.count(6), 0);
        due.is("4 first sheet", x.setSheet(100, 100), 200);
    }

    private static void whatStays() {
        DieLineChecker x = new DieLineChecker();
        x.setBase(5, 6, 7, 8);
        x.setLimit(1, 7);
        x.setWeight(2, 6);
        x.save(1);
        x.defineImage(2, 9, 9);
        due.write(x, "b0 0 9 9;q");
        due.is("4 load with a fault", x.load(), -19);
        due.is("5 its kind", x.faultKind(), 1);
        due.is("4 panel stays", x.flat(0, 3), 8);
        due.is("4 image stays", x.count(6), 1);
        due.is("4 acts stay", x.count(1), 4);
        due.is("4 text stays", x.count(3), 10);
        due.is("4 undo", x.undo(), 3);
        due.write(x, "b0 0 9 9;");
        due.is("5 kind stays until load", x.faultKind(), 1);
        due.is("4 load", x.load(), 1);
        due.is("5 no fault", x.faultKind(), 0);
        due.is("4 new panel", x.flat(0, 3), 9);
        due.is("4 no acts", x.count(1), 0);
        due.is("4 undo after load", x.undo(), STATE);
        due.is("4 text stays after load", x.count(3), 9);
        due.is("4 slots stay", x.count(2), 1);
        due.is("4 limit stays", x.setLimit(1, 0), 7);
        due.is("4 weight stays", x.setWeight(2, 0), 6);
        due.is("4 slot stays", x.restore(1), 1);
        due.is("4 panel of the slot", x.flat(0, 0), 5);
    }
}
