/** The boundary cases of promises 1 to 5, and of what "Terms" says about texts. */
public final class BoundaryTextTest {
    private static final int BAD = -1, STATE = -2, FULL = -3, CLASH = -4, NONE = -9;

    public static void main(String[] args) throws Exception {
        Boundary.runAll(BoundaryTextTest.class);
    }

    private static void is(String call, long got, long want) {
        Boundary.is(call, got, want);
    }

    /** Reads a text with a new object. */
    private static DieLineChecker reading(String text, int answer, int kind) {
        DieLineChecker x = new DieLineChecker();
        Boundary.write(x, text);
        is("load of '" + text + "'", x.load(), answer);
        is("faultKind of '" + text + "'", x.faultKind(), kind);
        return x;
    }

    // ---- promise 1

    private static void promise1NoPanelsAndImages() {
        DieLineChecker x = new DieLineChecker();
        is("panels", x.count(0), 0);
        is("flat(0, 0)", x.flat(0, 0), BAD);
        is("images", x.count(6), 0);
        is("setBase", x.setBase(0, 0, 9, 9), 0);
        for (int image = 0; image < 4; image++) {
            is("place of image " + image, x.place(0, image, 0, 0, 0), STATE);
        }
    }

    private static void promise1SheetOf200By200() {
        Boundary.taken("200 by 200", Boundary.NOTHING, x -> x.setBase(0, 0, 200, 200), 0);
        Boundary.refused("201 by 200", Boundary.NOTHING, x -> x.setBase(0, 0, 201, 200), CLASH);
        Boundary.refused("200 by 201", Boundary.NOTHING, x -> x.setBase(0, 0, 200, 201), CLASH);
        Boundary.taken("width", Boundary.NOTHING, x -> x.setSheet(20, 20), 200);
    }

    private static void promise1InitialLimits() {
        int[] initial = {1, 3, 2, 80};
        for (int which = 0; which < 4; which++) {
            is("limit " + which, new DieLineChecker().setLimit(which, 0), initial[which]);
        }
    }

    private static void promise1InitialWeights() {
        for (int kind = 0; kind < 8; kind++) {
            is("weight " + kind, new DieLineChecker().setWeight(kind, 0), 1);
        }
    }

    private static void promise1EmptyTextBuffer() {
        is("bytes", new DieLineChecker().count(3), 0);
        is("clearText", new DieLineChecker().clearText(), 0);
        is("load", new DieLineChecker().load(), 0);
    }

    private static void promise1EmptySlots() {
        is("slots", new DieLineChecker().count(2), 0);
        Boundary.refused("restore(0)", Boundary.NOTHING, x -> x.restore(0), STATE);
        Boundary.refused("restore(1)", Boundary.NOTHING, x -> x.restore(1), STATE);
    }

    private static void promise1NoActCanBeUndone() {
        is("acts", new DieLineChecker().count(1), 0);
        Boundary.refused("undo", Boundary.NOTHING, x -> x.undo(), STATE);
    }

    // ---- promise 2

    private static void promise2LetterFrom0To127() {
        Boundary.range("type", Boundary.NOTHING, (x, v) -> x.type(v), 0, 1, 127, 1);
        Boundary.range("type behind a text", States.RICH, (x, v) -> x.type(v), 0, 11, 127, 11);
    }

    private static void promise2BytesUpTo160() {
        DieLineChecker x = new DieLineChecker();
        for (int i = 1; i <= 160; i++) {
            is("byte " + i, x.type(i % 128), i);
        }
        is("bytes", x.count(3), 160);
        is("byte 161", x.type(32), FULL);
        is("bytes then", x.count(3), 160);
    }

    private static void promise2FullIsRefused() {
        Boundary.refused("type(32)", States.FULL_TEXT, x -> x.type(32), FULL);
        Boundary.refused("type(0)", States.FULL_TEXT, x -> x.type(0), FULL);
        Boundary.refused("type(127)", States.FULL_TEXT, x -> x.type(127), FULL);
    }

    private static void promise2BadBeforeFull() {
        Boundary.refused("type(-1)", States.FULL_TEXT, x -> x.type(-1), BAD);
        Boundary.refused("type(128)", States.FULL_TEXT, x -> x.type(128), BAD);
    }

    private static void promise2RoomAgainAfterClearText() {
        DieLineChecker x = Boundary.made(States.FULL_TEXT);
        is("clearText", x.clearText(), 160);
        is("type", x.type(59), 1);
    }

    // ---- promise 3

    private static void promise3HowManyItHad() {
        is("none", new DieLineChecker().clearText(), 0);
        DieLineChecker one = new DieLineChecker();
        one.type(32);
        is("one", one.clearText(), 1);
        is("none then", one.clearText(), 0);
        is("all", Boundary.made(States.FULL_TEXT).clearText(), 160);
    }

    private static void promise3BytesFromBeforeDoNotCount() {
        // Each second text is the beginning of the first one, which goes on with a digit.
        DieLineChecker x = reading("s20 2000;", -14, 1);
        Boundary.write(x, "s20 200");
        is("a number at the end", x.load(), -17);
        is("its fault", x.faultKind(), 2);
        x = reading("s-5 20;", -16, 3);
        Boundary.write(x, "s-");
        is("a minus sign at the end", x.load(), -11);
        is("its fault", x.faultKind(), 1);
        x = reading("s20 20;", 1, 0);
        Boundary.write(x, "s20 20");
        is("without the semicolon", x.load(), -16);
    }

    private static void promise3NothingElseChanges() {
        DieLineChecker x = Boundary.made(States.RICH);
        is("clearText", x.clearText(), 10);
        is("panels", x.count(0), 5);
        is("acts", x.count(1), 11);
        is("faultKind", x.faultKind(), 1);
        is("bytes", x.count(3), 0);
    }

    // ---- promise 4

    private static void promise4EmptyTextReplacesTheDesign() {
        DieLineChecker x = Boundary.made(States.RICH);
        x.clearText();
        is("load", x.load(), 0);
        is("panels", x.count(0), 0);
        is("images", x.count(6), 0);
        is("flaps", x.count(5), 0);
        is("undo", x.undo(), STATE);
        is("sheet", x.setSheet(100, 100), 200);
    }

    private static void promise4OnlySpaces() {
        reading(" ", 0, 0);
        reading(States.padded("", 160), 0, 0);
    }

    private static void promise4NumberOfItems() {
        reading("s20 20;", 1, 0);
        reading("s20 20;s30 30;", 2, 0);
        String most = "s20 20;".repeat(22);
        reading(most, 22, 0);
    }

    private static void promise4TextOf160Bytes() {
        DieLineChecker x = reading(States.padded("b1 2 3 4;", 160), 1, 0);
        is("byte 161", x.type(120), FULL);
        is("load again", x.load(), 1);
        is("height", x.flat(0, 3), 4);
        // The last byte counts: with a letter there the text ends within an item.
        reading(States.padded("b1 2 3 4;", 159) + "b", -170, 2);
        reading(States.padded("b1 2 3 4;", 159) + "x", -169, 1);
        reading(States.padded("b1 2 3 4", 159) + ";", 1, 0);
    }

    private static void promise4MinusTenMinusThePosition() {
        reading("x", -10, 1);
        reading(" x", -11, 1);
        reading(States.padded("", 159) + "x", -169, 1);
        reading("b", -11, 2);
        reading(States.padded("b", 160), -170, 2);
    }

    private static void promise4AFaultChangesNothing() {
        String[] texts = {"b1 1 9 9;x", "b1 1 9 9;i0 5 5;5", "s100 100;b1 1 9 9;s20 19;", "b"};
        int[] answers = {-19, -26, -34, -11};
        for (int i = 0; i < texts.length; i++) {
            String text = texts[i];
            // The latest fault is that of the same text already, so faultKind() stays as well.
            Boundary.refused("load of '" + text + "'", x -> {
                States.TWELVE_ACTS.on(x);
                Boundary.write(x, text);
                x.load();
            }, x -> x.load(), answers[i]);
        }
    }

    private static void promise4NoActCanBeUndone() {
        DieLineChecker x = Boundary.made(States.TWELVE_ACTS);
        Boundary.write(x, "b1 1 9 9;p0 1 0 9 5 1;");
        is("acts before", x.count(1), 12);
        is("load", x.load(), 2);
        is("acts", x.count(1), 0);
        is("undo", x.undo(), STATE);
        is("a new act", x.setAngle(1, 0), 1);
        is("acts then", x.count(1), 1);
        is("undo it", x.undo(), 0);
        is("angle", x.setAngle(1, 2), 1);
    }

    private static void promise4WhatStays() {
        DieLineChecker x = Boundary.made(States.RICH);
        Boundary.write(x, "b1 1 9 9;");
        is("load", x.load(), 1);
        is("bytes", x.count(3), 9);
        is("slots", x.count(2), 1);
        is("bleed", x.setLimit(1, 0), 5);
        is("weight", x.setWeight(5, 0), 2);
        is("load again", x.load(), 1);
        is("slot", x.restore(0), 4);
    }

    // ---- promise 5

    private static void promise5NoCallOfLoad() {
        is("new", new DieLineChecker().faultKind(), 0);
        DieLineChecker x = new DieLineChecker();
        x.type(120);
        is("not read yet", x.faultKind(), 0);
    }

    private static void promise5KindsOneToThree() {
        reading("x", -10, 1);
        reading("5", -10, 2);
        reading("s1 1;", -14, 3);
    }

    private static void promise5TheLatestCall() {
        DieLineChecker x = reading("s1 1;", -14, 3);
        x.clearText();
        is("after clearText", x.faultKind(), 3);
        x.setBase(1, 1, 5, 5);
        x.undo();
        is("after other calls", x.faultKind(), 3);
        is("load", x.load(), 0);
        is("none found", x.faultKind(), 0);
        x.type(120);
        is("load of x", x.load(), -10);
        is("one found again", x.faultKind(), 1);
    }

    // ---- the section "Terms"

    private static void termsEveryByteAlone() {
        for (int b = 0; b < 128; b++) {
            DieLineChecker x = new DieLineChecker();
            x.type(b);
            boolean letter = "sbpfia".indexOf(b) >= 0;
            boolean digitOrEnd = b >= '0' && b <= '9' || b == ';';
            is("load of byte " + b, x.load(), b == ' ' ? 0 : letter ? -11 : -10);
            is("faultKind of byte " + b, x.faultKind(), b == ' ' ? 0 : letter || digitOrEnd ? 2 : 1);
        }
    }

    private static void termsDigitsUpToThree() {
        reading("s020 300;", 1, 0);
        reading("s0020 300;", -11, 1);
        reading("s20 0300;", -14, 1);
        reading("b000 000 001 001;", 1, 0);
        reading("b0 0 1 0001;", -17, 1);
        reading("s999 999;", -18, 3);
        reading("s1000 20;", -11, 1);
        reading("b0 0 9 9;i0 5 5;a0 0 0-300-300;", 3, 0);
        reading("b0 0 9 9;i0 5 5;a0 0 0-0300-300;", -32, 1);
        reading("b0 0 9 9;i0 5 5;a0 0 0-300-1000;", -36, 1);
    }

    private static void termsMinusDirectlyBeforeADigit() {
        reading("b-0 0 9 9;", 1, 0);
        reading("b-1 0 9 9;", -19, 3);
        reading("b- 1 0 9 9;", -11, 1);
        reading("b--1 0 9 9;", -11, 1);
        reading("b1- 1 9 9;", -12, 1);
        reading("b-;", -11, 1);
        reading("b1 1 9 9-", -18, 1);
        reading("b1 1 9-", -16, 1);
    }

    private static void termsSpacesWhereTheyMayStand() {
        reading(" s 100 100 ; b 1 1 9 9 ; ", 2, 0);
        reading("s100 100;b1 1 9 9;", 2, 0);
        reading("s  100   100  ;", 1, 0);
        reading("s100\t100;", -14, 1);
        reading("s100\n100;", -14, 1);
    }

    private static void termsSpacesAreNeededBetweenNumbers() {
        reading("s20 20;", 1, 0);
        reading("s2020;", -11, 1);
        reading("s200;", -14, 2);
        reading("s20-20;", -16, 3);
        reading("b0 0 9 9;i0 5 5;a0 0 0-1-1;", 3, 0);
        reading("b0 0 9 9;i0 5 5;a0 0 0 -1 -1;", 3, 0);
    }

    private static void termsHowManyNumbersAnItemHas() {
        reading("s20;", -13, 2);
        reading("s20 20 1;", -17, 2);
        reading("b1 1 9;", -16, 2);
        reading("b1 1 9 9;", 1, 0);
        reading("b1 1 9 9 1;", -19, 2);
        String base = "b0 0 9 9;";
        reading(base + "p0 1 0 9 5;", -29, 2);
        reading(base + "p0 1 0 9 5 1;", 2, 0);
        reading(base + "p0 1 0 9 5 1 1;", -32, 2);
        String panel = base + "p0 1 0 9 5 1;";
        reading(panel + "f1;", -34, 2);
        reading(panel + "f1 0;", 3, 0);
        reading(panel + "f1 0 0;", -37, 2);
        reading("i0 9;", -14, 2);
        reading("i0 9 9;", 1, 0);
        reading("i0 9 9 9;", -17, 2);
        String image = base + "i0 5 5;";
        reading(image + "a0 0 0 1;", -34, 2);
        reading(image + "a0 0 0 1 1;", 3, 0);
        reading(image + "a0 0 0 1 1 1;", -37, 2);
    }

    private static void termsOneGoesBeforeTwo() {
        reading("100", -10, 2);
        reading("1000", -10, 1);
        reading("-100", -10, 2);
        reading("-1000", -10, 1);
        reading("b1 1 9 9 100;", -19, 2);
        reading("b1 1 9 9 1000;", -19, 1);
        reading("b1 1 9 9-1;", -18, 2);
        reading("b1 1 9 9-;", -18, 1);
        // Only at the same position: an earlier fault of kind 2 ends the reading.
        reading(";1000", -10, 2);
        reading("bb1000", -11, 2);
    }

    private static void termsNotAllowedAtItsPlace() {
        reading("bs", -11, 2);
        reading("b1s", -12, 2);
        reading("b1 1 9 9s", -18, 2);
        reading(";", -10, 2);
        reading("s20 20;;", -17, 2);
        reading("b;", -11, 2);
        reading("s20 20;5", -17, 2);
        reading("s20 20;-5", -17, 2);
    }

    private static void termsTheTextEndsWithinAnItem() {
        reading("s", -11, 2);
        reading("s20", -13, 2);
        reading("s20 20", -16, 2);
        reading("s20 20  ", -18, 2);
        reading("s20 20;", 1, 0);
        reading("s20 20; ", 1, 0);
        reading("s20 20;s", -18, 2);
    }

    private static void termsTheMethodWouldReturnAnErrorCode() {
        reading("s20 20;", 1, 0);
        reading("s19 20;", -16, 3);
        reading("s300 300;", 1, 0);
        reading("s300 301 ;", -19, 3);
        reading("b199 199 1 1;", 1, 0);
        reading("b199 199 1 2;", -22, 3);
        reading("b0 0 9 9;p0 1 0 9 5 1;p1 1 0 9 5 1;", 3, 0);
        reading("b0 0 9 9;p0 1 0 9 5 1;p2 1 0 9 5 1;", -44, 3);
        reading("b0 0 9 9;p0 3 0 9 5 1;", -31, 3);
        reading("i3 200 200;", 1, 0);
        reading("i3 200 201;", -20, 3);
        reading("i4 200 200;", -20, 3);
        reading("b0 0 9 9;i0 5 5;a0 0 7 300-300;", 3, 0);
        reading("b0 0 9 9;i0 5 5;a0 0 7 301-300;", -40, 3);
        reading("b0 0 9 9;i0 5 5;a0 0 8 300-300;", -40, 3);
        reading("b0 0 9 9;i0 5 5;a0 1 7 300-300;", -40, 3);
    }

    /** An item whose numbers are tried one by one: each is taken at both ends of its range, and no further. */
    private static void item(String before, char letter, int[] numbers, int[][] ranges) {
        for (int i = 0; i < numbers.length; i++) {
            for (int end = 0; end < 2; end++) {
                for (int beyond = 0; beyond < 2; beyond++) {
                    int[] tried = numbers.clone();
                    tried[i] = ranges[i][end] + (end == 0 ? -beyond : beyond);
                    StringBuilder text = new StringBuilder(before).append(letter);
                    for (int number : tried) {
                        text.append(' ').append(number);
                    }
                    int items = before.length() - before.replace(";", "").length() + 1;
                    int semicolon = text.length();
                    text.append(';');
                    reading(text.toString(), beyond == 0 ? items : -10 - semicolon, beyond == 0 ? 0 : 3);
                }
            }
        }
    }

    private static void termsEveryNumberOfASheetItem() {
        item("", 's', new int[] {100, 100}, new int[][] {{20, 300}, {20, 300}});
    }

    private static void termsEveryNumberOfABaseItem() {
        item("s90 80;", 'b', new int[] {10, 10, 10, 10}, new int[][] {{0, 80}, {0, 70}, {1, 80}, {1, 70}});
    }

    private static void termsEveryNumberOfAPanelItem() {
        // The second panel can hang on both others; east of the base there are 20 units, and the base is 10 high.
        item("s90 80;b60 30 10 10;p0 2 0 9 5 1;", 'p', new int[] {0, 1, 2, 3, 4, 0},
            new int[][] {{0, 1}, {0, 3}, {0, 7}, {1, 8}, {1, 20}, {0, 3}});
    }

    private static void termsEveryNumberOfAFlapItem() {
        item("b60 30 10 10;p0 2 0 9 5 1;p0 1 0 9 5 1;p0 3 0 9 5 1;", 'f', new int[] {3, 0}, new int[][] {{1, 3}, {0, 2}});
    }

    private static void termsEveryNumberOfAnImageItem() {
        item("", 'i', new int[] {1, 50, 60}, new int[][] {{0, 3}, {1, 200}, {1, 200}});
    }

    private static void termsEveryNumberOfAPlacementItem() {
        item("b60 30 10 10;p0 2 0 9 5 1;i0 9 9;i1 9 9;i2 9 9;i3 9 9;", 'a', new int[] {0, 1, 2, 3, 4},
            new int[][] {{0, 1}, {0, 3}, {0, 7}, {-300, 300}, {-300, 300}});
    }

    private static void termsAnglesOfTexts() {
        String base = "b50 50 9 9;p0 1 0 9 5 ";
        int[] angles = {0, 1, 2, -1};
        for (int a = 0; a <= 3; a++) {
            is("angle " + a, reading(base + a + ";", 2, 0).setAngle(1, 0), angles[a]);
        }
        reading(base + "4;", -33, 3);
        reading(base + "-1;", -34, 3);
    }

    private static void termsTargetsOfTexts() {
        String two = "b0 0 9 9;p0 1 0 9 5 1;";
        is("target 0", reading(two + "f1 0;", 3, 0).setFlap(1, NONE), 0);
        reading(two + "f1 1;", -36, 3);
        reading(two + "f1 2;", -36, 3);
        reading(two + "f1 -1;", -37, 3);
        reading(two + "f1 -9;", -37, 3);
        reading(two + "f0 1;", -36, 3);
        reading(two + "f2 0;", -36, 3);
    }

    private static void termsTheFirstFaultEndsTheReading() {
        reading("s19 20;x", -16, 3);
        reading("s19 20;;", -16, 3);
        reading("x;s19 20;", -10, 1);
        reading("5x", -10, 2);
        reading("b0 0 9 9;a0 0 0 0 0;p0 1 0 9 5 1;", -29, 3);
    }

    private static void termsATextBeginsWithAnEmptyDesign() {
        DieLineChecker x = Boundary.made(States.RICH);
        Boundary.write(x, "p0 0 0 1 1 1;");
        is("no panels at the beginning", x.load(), -22);
        Boundary.write(x, "b0 0 9 9;a0 0 0 0 0;");
        is("no images at the beginning", x.load(), -29);
        x.setSheet(300, 300);
        Boundary.write(x, "b0 0 201 200;");
        is("no wider sheet at the beginning", x.load(), -22);
        Boundary.write(x, "b0 0 200 201;");
        is("no higher sheet at the beginning", x.load(), -22);
        x.setBase(0, 0, 20, 20);
        x.setSheet(20, 20);
        Boundary.write(x, "b0 0 200 200;");
        is("a sheet of 200 by 200", x.load(), 1);
        is("its width", x.flat(0, 2), 200);
    }

    private static void termsATextDoesNotBeginWithTheOneBefore() {
        DieLineChecker x = reading("s300 300;b0 0 250 250;i0 9 9;i3 9 9;", 4, 0);
        for (String text : new String[] {"b0 0 201 200;", "b0 0 200 201;", "p0 0 0 1 1 1;"}) {
            Boundary.write(x, text);
            is("load of '" + text + "'", x.load(), -22);
        }
        for (int image = 0; image < 4; image++) {
            Boundary.write(x, "b0 0 9 9;a0 " + image + " 0 0 0;");
            is("image " + image, x.load(), -29);
        }
        // A fault leaves nothing in the next text either.
        Boundary.write(x, "s300 300;b0 0 250 250;i0 9 9;x");
        is("a text with a fault", x.load(), -39);
        Boundary.write(x, "b0 0 9 9;a0 0 0 0 0;");
        is("the next text", x.load(), -29);
    }

    private static void termsWhatATextMakesIsTheWholeDesign() {
        String text = "b30 30 9 8;p0 1 0 8 5 1;i0 9 9;a1 0 5 -1-2;";
        Boundary.Setup fresh = x -> {
            Boundary.write(x, text);
            x.load();
        };
        Boundary.same("after ten panels", x -> {
            States.TEN_PANELS.on(x);
            for (int p = 1; p < 10; p++) {
                x.setAngle(p, 2);
            }
            x.setFlap(2, 1);
            fresh.on(x);
        }, fresh, Later.QUERIES);
    }

    private static void termsTenPanelsInAText() {
        StringBuilder ten = new StringBuilder("b0 0 1 1;");
        for (int p = 0; p < 9; p++) {
            ten.append("p").append(p).append(" 1 0 1 1 0;");
        }
        DieLineChecker x = reading(ten.toString(), 10, 0);
        is("panels", x.count(0), 10);
        reading(ten + "p9 1 0 1 1 0;", -148, 3);
    }
}
