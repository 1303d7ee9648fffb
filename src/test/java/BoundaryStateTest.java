/** The boundary cases of promises 18 to 22 and 46, and of what "Terms" says about acts and limits. */
public final class BoundaryStateTest {
    private static final int BAD = -1, STATE = -2, NONE = -9;

    public static void main(String[] args) throws Exception {
        Boundary.runAll(BoundaryStateTest.class);
    }

    private static void is(String call, long got, long want) {
        Boundary.is(call, got, want);
    }

    // ---- promise 18

    private static void promise18WhichFrom0To3() {
        Boundary.range("which", States.RICH, (x, v) -> x.setLimit(v, 1), 0, 1, 3, 80);
    }

    private static void promise18ToleranceFrom0To20() {
        Boundary.range("tolerance", States.RICH, (x, v) -> x.setLimit(0, v), 0, 1, 20, 1);
        DieLineChecker x = new DieLineChecker();
        x.setLimit(0, 20);
        is("20 is set", x.setLimit(0, 0), 20);
        is("0 is set", x.setLimit(0, 1), 0);
    }

    private static void promise18BleedFrom0To20() {
        Boundary.range("bleed", States.RICH, (x, v) -> x.setLimit(1, v), 0, 5, 20, 5);
        DieLineChecker x = new DieLineChecker();
        x.setLimit(1, 20);
        is("20 is set", x.setLimit(1, 0), 20);
        is("0 is set", x.setLimit(1, 1), 0);
    }

    private static void promise18GlueBleedFrom0To20() {
        Boundary.range("glue bleed", States.RICH, (x, v) -> x.setLimit(2, v), 0, 2, 20, 2);
        DieLineChecker x = new DieLineChecker();
        x.setLimit(2, 20);
        is("20 is set", x.setLimit(2, 0), 20);
        is("0 is set", x.setLimit(2, 1), 0);
    }

    private static void promise18CoverageFrom0To100() {
        Boundary.range("coverage", States.RICH, (x, v) -> x.setLimit(3, v), 0, 80, 100, 80);
        DieLineChecker x = new DieLineChecker();
        x.setLimit(3, 100);
        is("100 is set", x.setLimit(3, 0), 100);
        is("0 is set", x.setLimit(3, 1), 0);
        is("21 to 100 is for the coverage alone", x.setLimit(3, 21), 1);
    }

    // ---- promise 19

    private static void promise19KindFrom0To7() {
        Boundary.range("kind", States.RICH, (x, v) -> x.setWeight(v, 3), 0, 1, 7, 1);
        Boundary.taken("kind 5", States.RICH, x -> x.setWeight(5, 3), 2);
    }

    private static void promise19WeightFrom0To9() {
        for (int kind = 0; kind < 8; kind++) {
            int which = kind;
            Boundary.range("weight of " + kind, States.RICH, (x, v) -> x.setWeight(which, v),
                0, kind == 5 ? 2 : 1, 9, kind == 5 ? 2 : 1);
        }
        DieLineChecker x = new DieLineChecker();
        x.setWeight(7, 9);
        is("9 is set", x.setWeight(7, 0), 9);
        is("0 is set", x.setWeight(7, 1), 0);
    }

    // ---- promise 20

    private static void promise20NoneToUndo() {
        Boundary.refused("a new object", Boundary.NOTHING, x -> x.undo(), STATE);
        Boundary.refused("all undone", x -> {
            x.setBase(1, 1, 5, 5);
            x.undo();
        }, x -> x.undo(), STATE);
        Boundary.refused("after load", x -> {
            States.RICH.on(x);
            Boundary.write(x, "b1 1 9 9;");
            x.load();
        }, x -> x.undo(), STATE);
    }

    private static void promise20HowManyMore() {
        DieLineChecker x = new DieLineChecker();
        x.setBase(1, 1, 5, 5);
        x.setSheet(100, 100);
        is("one more", x.undo(), 1);
        is("none more", x.undo(), 0);
        is("none", x.undo(), STATE);
        Boundary.taken("of 12", States.TWELVE_ACTS, y -> y.undo(), 11);
    }

    private static void promise20AtMostTwelveActs() {
        for (int acts = 11; acts <= 14; acts++) {
            DieLineChecker x = new DieLineChecker();
            for (int i = 1; i <= acts; i++) {
                x.setSheet(100 + i, 200);
            }
            int kept = Math.min(acts, 12);
            is("acts of " + acts, x.count(1), kept);
            for (int left = kept - 1; left >= 0; left--) {
                is("undo of " + acts, x.undo(), left);
            }
            is("no more of " + acts, x.undo(), STATE);
            // The forgotten acts stay: the width before the first remembered one.
            is("width of " + acts, x.setSheet(100, 100), acts <= 12 ? 200 : 100 + acts - 12);
        }
    }

    private static void promise20TheRingGoesOn() {
        DieLineChecker x = new DieLineChecker();
        int width = 20;
        // 30 acts, of which some are undone in between: the latest state always comes back.
        for (int round = 0; round < 10; round++) {
            x.setSheet(width + 1, 200);
            x.setSheet(width + 2, 200);
            x.setSheet(width + 3, 200);
            is("acts", x.count(1), Math.min(12, 2 * round + 3));
            is("undo", x.undo(), Math.min(12, 2 * round + 3) - 1);
            width += 2;
        }
        is("acts", x.count(1), 11);
        for (int left = 10; left >= 0; left--) {
            is("undo at the end", x.undo(), left);
        }
        // 20 acts are in force, the latest 11 are undone.
        is("width", x.setSheet(200, 200), 20 + 20 - 11);
    }

    private static void promise20AnUndoneActIsForgotten() {
        DieLineChecker x = Boundary.made(States.TWELVE_ACTS);
        is("undo", x.undo(), 11);
        is("a new act", x.setWeight(1, 7), 1);
        is("acts", x.count(1), 12);
        is("undo it", x.undo(), 11);
        is("the act before", x.undo(), 10);
        is("weight 0", x.setWeight(0, 5), 1);
        is("weight 5", x.setWeight(5, 5), 1);
    }

    private static void promise20SaveAndTextsStay() {
        DieLineChecker x = Boundary.made(States.RICH);
        is("undo", x.undo(), 10);
        for (int left = 9; left >= 0; left--) {
            is("undo", x.undo(), left);
        }
        is("slots", x.count(2), 1);
        is("bytes", x.count(3), 10);
        is("faultKind", x.faultKind(), 1);
        is("restore", x.restore(0), 4);
    }

    // ---- promise 21

    private static void promise21SlotFrom0To1() {
        Boundary.range("slot", States.RICH, (x, v) -> x.save(v), 0, 5, 1, 5);
    }

    private static void promise21NumberOfPanels() {
        Boundary.taken("none", Boundary.NOTHING, x -> x.save(0), 0);
        Boundary.taken("one", x -> x.setBase(1, 1, 5, 5), x -> x.save(1), 1);
        Boundary.taken("ten", States.TEN_PANELS, x -> x.save(1), 10);
    }

    private static void promise21ASavedEmptyDesign() {
        DieLineChecker x = new DieLineChecker();
        is("save", x.save(1), 0);
        is("slots", x.count(2), 1);
        x.setBase(1, 1, 5, 5);
        is("restore", x.restore(1), 0);
        is("panels", x.count(0), 0);
        is("the other slot", x.restore(0), STATE);
    }

    private static void promise21InPlaceOfWhatItHad() {
        DieLineChecker x = Boundary.made(States.TEN_PANELS);
        x.save(0);
        x.setBase(1, 1, 5, 5);
        is("save", x.save(0), 1);
        is("slots", x.count(2), 1);
        x.setSheet(100, 100);
        is("restore", x.restore(0), 1);
        is("width", x.flat(0, 2), 5);
        is("no panel 1", x.flat(1, 0), BAD);
        is("sheet", x.setSheet(100, 100), 200);
    }

    private static void promise21NoAct() {
        DieLineChecker x = Boundary.made(States.TWELVE_ACTS);
        x.save(1);
        is("acts", x.count(1), 12);
        is("undo", x.undo(), 11);
        is("slots", x.count(2), 2);
    }

    private static void promise21NotLimitsAndWeights() {
        DieLineChecker x = new DieLineChecker();
        x.setLimit(0, 5);
        x.setWeight(0, 6);
        x.save(0);
        x.setLimit(0, 7);
        x.setWeight(0, 8);
        x.restore(0);
        is("tolerance", x.setLimit(0, 1), 7);
        is("weight", x.setWeight(0, 1), 8);
    }

    // ---- promise 22

    private static void promise22SlotFrom0To1() {
        Boundary.Setup both = x -> {
            States.RICH.on(x);
            x.save(1);
        };
        Boundary.range("slot", both, (x, v) -> x.restore(v), 0, 4, 1, 5);
    }

    private static void promise22TheSlotIsEmpty() {
        Boundary.refused("slot 1", States.RICH, x -> x.restore(1), STATE);
        Boundary.refused("slot 0", x -> {
            x.setBase(1, 1, 5, 5);
            x.save(1);
        }, x -> x.restore(0), STATE);
    }

    private static void promise22TheSlotKeepsIt() {
        DieLineChecker x = Boundary.made(States.RICH);
        is("restore", x.restore(0), 4);
        x.setAngle(1, 2);
        x.removeLast();
        is("restore again", x.restore(0), 4);
        is("angle", x.setAngle(1, 2), 1);
        is("slots", x.count(2), 1);
    }

    private static void promise22AnAct() {
        DieLineChecker x = Boundary.made(States.RICH);
        is("restore", x.restore(0), 4);
        is("acts", x.count(1), 12);
        is("flaps", x.count(5), 0);
        is("images", x.count(6), 0);
        is("undo", x.undo(), 11);
        is("flaps then", x.count(5), 1);
        is("images then", x.count(6), 2);
        is("panels then", x.count(0), 5);
    }

    // ---- promise 46

    private static void promise46WhatFrom0To6() {
        Boundary.range("what", States.RICH, (x, v) -> x.count(v), 0, 5, 6, 2);
    }

    private static void promise46SmallestCounts() {
        for (int what = 0; what <= 6; what++) {
            is("count(" + what + ")", new DieLineChecker().count(what), 0);
        }
        DieLineChecker x = new DieLineChecker();
        x.setBase(1, 1, 5, 5);
        is("the base is not folded", x.count(4), 0);
    }

    private static void promise46GreatestCounts() {
        DieLineChecker x = Boundary.made(States.FULL_TEXT);
        is("bytes", x.count(3), 160);
        x = Boundary.made(States.TWELVE_ACTS);
        x.setWeight(0, 1);
        is("acts", x.count(1), 12);
        x = new DieLineChecker();
        x.save(0);
        x.save(1);
        is("slots", x.count(2), 2);
        for (int image = 0; image < 4; image++) {
            x.defineImage(image, 1, 1);
        }
        is("images", x.count(6), 4);
        States.TEN_PANELS.on(x);
        for (int p = 1; p < 10; p++) {
            x.setAngle(p, p % 2 == 0 ? 1 : -1);
            x.setFlap(p, 0);
        }
        is("panels", x.count(0), 10);
        is("angles other than 0", x.count(4), 9);
        is("flaps", x.count(5), 9);
    }

    private static void promise46AnglesOtherThan0() {
        for (int angle = -1; angle <= 2; angle++) {
            DieLineChecker x = new DieLineChecker();
            x.setBase(50, 50, 20, 20);
            x.addPanel(0, 1, 0, 20, 5, angle);
            is("angle " + angle, x.count(4), angle == 0 ? 0 : 1);
        }
    }

    // ---- the section "Terms"

    /** All acts on a state in which nothing becomes different by them. */
    private static final Boundary.Call[] SAME = {
        x -> x.setSheet(200, 200),
        x -> x.setAngle(1, 0),
        x -> x.setSize(1, 2, 10),
        x -> x.setFlap(1, NONE),
        x -> x.defineImage(0, 10, 8),
        x -> x.place(0, 0, 0, 0, 0),
        x -> x.continueImage(0, false),
        x -> x.spreadImage(2),
        x -> x.setLimit(0, 1),
        x -> x.setWeight(0, 1),
        x -> x.restore(0)
    };

    private static final Boundary.Setup PRINTED = x -> {
        x.setBase(20, 30, 10, 8);
        x.addPanel(0, 1, 0, 8, 10, 0);
        x.addPanel(1, 1, 0, 8, 10, 0);
        x.defineImage(0, 10, 8);
        x.place(0, 0, 0, 0, 0);
        x.place(1, 0, 0, -10, 0);
        x.place(2, 0, 0, 300, 300);
        x.save(0);
    };

    private static void termsActsByWhichNothingBecomesDifferent() {
        for (int i = 0; i < SAME.length; i++) {
            DieLineChecker x = Boundary.made(PRINTED);
            is("acts before " + i, x.count(1), 7);
            is("act " + i + " succeeds", SAME[i].on(x) >= 0 || i == 3 ? 1 : 0, 1);
            is("acts after " + i, x.count(1), 8);
            is("undo of " + i, x.undo(), 7);
            is("the placement stays " + i, x.imageAt(2, 0, 0, 0), -300);
        }
        DieLineChecker x = Boundary.made(PRINTED);
        x.setBase(20, 30, 10, 8);
        is("setBase", x.count(1), 8);
        x.setBase(20, 30, 10, 8);
        is("setBase with the same numbers", x.count(1), 9);
    }

    private static void termsOtherCallsAreNoActs() {
        DieLineChecker x = Boundary.made(PRINTED);
        x.type(32);
        x.clearText();
        x.faultKind();
        x.save(1);
        x.bestDepth(1);
        x.bestAngle(1);
        x.foldStep(0);
        x.leastTolerance();
        x.findingCount();
        is("acts", x.count(1), 7);
        x.type(120);
        is("a load with a fault", x.load(), -10);
        is("acts then", x.count(1), 7);
    }

    private static void termsEachActIsUndone() {
        DieLineChecker x = Boundary.made(PRINTED);
        is("defineImage", x.defineImage(0, 30, 8), 1);
        is("continueImage", x.continueImage(1, false), 0);
        is("placed", x.imageAt(2, 0, 0, 0), 20);
        is("undo", x.undo(), 8);
        is("as before", x.imageAt(2, 0, 0, 0), -300);
        is("removeLast", x.removeLast(), 2);
        is("undo of removeLast", x.undo(), 8);
        is("the image is back", x.imageAt(2, 0, 0, 0), -300);
        is("clearImage", x.clearImage(2), 0);
        is("undo of clearImage", x.undo(), 8);
        is("the image is back again", x.imageAt(2, 0, 0, 0), -300);
        is("setBase", x.setBase(0, 0, 1, 1), 3);
        is("undo of setBase", x.undo(), 8);
        is("three panels", x.count(0), 3);
        is("the image is back once more", x.imageAt(2, 0, 0, 0), -300);
        is("reach with the new width", x.reach(0, 1), 20);
        is("undo of defineImage", x.undo(), 7);
        is("reach with the old width", x.reach(0, 1), 0);
        is("defineImage of a new one", x.defineImage(3, 5, 5), 0);
        is("undo of it", x.undo(), 7);
        is("not defined", x.place(0, 3, 0, 0, 0), STATE);
    }

    private static void termsLimitsInitially() {
        // With the tolerance 1 the slits at both ends of the fold are covered if they are 1 long, but not if 2.
        DieLineChecker x = new DieLineChecker();
        x.setBase(50, 60, 20, 10);
        x.addPanel(0, 2, 1, 18, 5, 1);
        is("slits of 1", x.openLength(0, 2), 0);
        x.setSize(1, 1, 17);
        is("a slit of 2", x.openLength(0, 2), 1);
    }
}
