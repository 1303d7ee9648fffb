/** The five examples of the document. */
public final class ExamplesTest {
    private static final Due due = new Due();

    public static void main(String[] args) {
        closedCarton();
        continuedImage();
        foldedBack();
        fromText();
        openCarton();
        due.end();
    }

    private static void closedCarton() {
        DieLineChecker x = new DieLineChecker();
        due.is("1 setBase", x.setBase(40, 60, 30, 50), 0);
        due.is("1 addPanel 1", x.addPanel(0, 1, 0, 50, 20, 1), 1);
        due.is("1 addPanel 2", x.addPanel(1, 1, 0, 50, 30, 1), 2);
        due.is("1 addPanel 3", x.addPanel(2, 1, 0, 50, 20, 1), 3);
        due.is("1 addPanel 4", x.addPanel(3, 1, 0, 50, 8, 1), 4);
        due.is("1 setFlap", x.setFlap(4, 0), -9);
        due.is("1 addPanel 5", x.addPanel(0, 2, 0, 30, 20, 1), 5);
        due.is("1 addPanel 6", x.addPanel(0, 0, 0, 30, 20, 1), 6);
        due.is("1 volume", x.volume(), 30000);
        due.is("1 coverage", x.coverage(4), 100);
        due.is("1 seamCount", x.seamCount(), 18);
        due.is("1 openLength", x.openLength(5, 1), 0);
        due.is("1 facing", x.facing(2), 5);
        due.is("1 corner", x.corner(2, 0, 2), -20);
        due.is("1 foldStep", x.foldStep(0), 1);
        due.is("1 findingCount", x.findingCount(), 0);
    }

    private static void continuedImage() {
        DieLineChecker x = new DieLineChecker();
        due.is("2 setBase", x.setBase(20, 20, 20, 10), 0);
        due.is("2 addPanel", x.addPanel(0, 1, 0, 10, 15, 1), 1);
        due.is("2 defineImage", x.defineImage(0, 50, 8), 0);
        due.is("2 place", x.place(0, 0, 0, -3, 1), -9);
        due.is("2 reach", x.reach(0, 1), 27);
        due.is("2 continueImage", x.continueImage(0, false), 0);
        due.is("2 imageAt", x.imageAt(1, 0, 1, 0), 23);
        due.is("2 seam", x.seam(0, 7), 0);
        due.is("2 spreadImage", x.spreadImage(0), 0);
        due.is("2 undo", x.undo(), 5);
        due.is("2 undo again", x.undo(), 4);
        due.is("2 seam undone", x.seam(0, 7), -9);
        due.is("2 totalCost", x.totalCost(), 90);
        due.is("2 amount", x.finding(0, 4), 20);
        due.is("2 kind", x.finding(0, 0), 0);
        due.is("2 panelCost", x.panelCost(1), 40);
    }

    private static void foldedBack() {
        DieLineChecker x = new DieLineChecker();
        due.is("3 setBase", x.setBase(20, 20, 20, 10), 0);
        due.is("3 addPanel 1", x.addPanel(0, 1, 0, 10, 20, 0), 1);
        due.is("3 addPanel 2", x.addPanel(1, 2, 5, 10, 30, 2), 2);
        due.is("3 cutLength", x.cutLength(), 160);
        due.is("3 creaseLength", x.creaseLength(), 10);
        due.is("3 pitch", x.pitch(0, 0, false), 40);
        due.is("3 pitch turned", x.pitch(0, 0, true), 35);
        due.is("3 rowCount", x.rowCount(0, 2), 4);
        due.is("3 setSheet", x.setSheet(100, 59), -4);
        due.is("3 addPanel on a panel", x.addPanel(0, 1, 0, 5, 5, 0), -4);
        due.is("3 setFlap", x.setFlap(2, 1), -9);
        due.is("3 coverage", x.coverage(2), 0);
        due.is("3 removeLast", x.removeLast(), 2);
        due.is("3 openLength", x.openLength(0, 1), 0);
        due.is("3 bestAngle", x.bestAngle(1), 0);
        due.is("3 bestDepth", x.bestDepth(1), 1);
    }

    private static void fromText() {
        DieLineChecker x = new DieLineChecker();
        due.write(x, "b1 1 9 9;");
        due.is("4 load", x.load(), 1);
        due.is("4 flat", x.flat(0, 2), 9);
        due.is("4 type", x.type(112), 10);
        due.is("4 load cut off", x.load(), -20);
        due.is("4 faultKind", x.faultKind(), 2);
        due.is("4 clearText", x.clearText(), 10);
        due.is("4 load empty", x.load(), 0);
    }

    private static void openCarton() {
        DieLineChecker x = new DieLineChecker();
        due.is("5 setBase", x.setBase(10, 30, 20, 20), 0);
        due.is("5 addPanel 1", x.addPanel(0, 2, 0, 20, 20, 1), 1);
        due.is("5 addPanel 2", x.addPanel(1, 2, 0, 20, 12, 1), 2);
        due.is("5 addPanel 3", x.addPanel(0, 1, 0, 20, 30, 1), 3);
        due.is("5 addPanel 4", x.addPanel(3, 2, 3, 10, 9, -1), 4);
        due.is("5 crossings 14", x.crossings(14), 0);
        due.is("5 crossings 30", x.crossings(30), 0);
        due.is("5 foldStep 0", x.foldStep(0), 1);
        due.is("5 foldStep 3", x.foldStep(3), 4);
        due.is("5 leastTolerance", x.leastTolerance(), -9);
        due.is("5 setLimit", x.setLimit(0, 5), 1);
        due.is("5 volume", x.volume(), -2);
        due.is("5 seam", x.seam(2, 5), 0);
        due.is("5 setWeight", x.setWeight(0, 0), 1);
        due.is("5 totalCost", x.totalCost(), 0);
        due.is("5 undo", x.undo(), 6);
    }
}
