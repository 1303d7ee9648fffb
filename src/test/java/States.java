/** States of an object in which boundary cases begin. */
final class States {
    /** Five panels, the last one a flap; two images, limits, weights, a slot, a text with a fault; 11 acts. */
    static final Boundary.Setup RICH = x -> {
        x.setSheet(210, 190);
        x.setBase(60, 60, 20, 16);
        x.addPanel(0, 1, 0, 16, 10, 1);
        x.addPanel(0, 2, 0, 20, 10, 1);
        x.addPanel(1, 1, 0, 16, 20, 1);
        x.save(0);
        x.addPanel(2, 1, 2, 6, 5, -1);
        x.setFlap(4, 1);
        x.defineImage(0, 60, 50);
        x.defineImage(2, 9, 7);
        x.place(0, 0, 0, -5, -6);
        x.place(4, 2, 3, -1, 1);
        x.setLimit(1, 5);
        x.setWeight(5, 2);
        Boundary.write(x, "b1 1 9 9;x");
        x.load();
        x.setAngle(3, 0);
        x.undo();
    };

    /** As RICH, but with 12 acts, the most that are remembered. */
    static final Boundary.Setup TWELVE_ACTS = x -> {
        RICH.on(x);
        x.setWeight(0, 4);
    };

    /** A design that lies within 20 by 20, and all four images. */
    static final Boundary.Setup SMALL = x -> {
        x.setBase(2, 3, 5, 4);
        x.addPanel(0, 1, 0, 4, 3, 1);
        x.addPanel(0, 2, 1, 3, 6, -1);
        x.setFlap(2, 1);
        for (int image = 0; image < 4; image++) {
            x.defineImage(image, 6 + image, 9 - image);
        }
        x.place(1, 3, 6, -1, -2);
    };

    /** Ten panels in a row, all flat. */
    static final Boundary.Setup TEN_PANELS = x -> {
        x.setBase(20, 30, 10, 8);
        for (int p = 0; p < 9; p++) {
            x.addPanel(p, 1, 0, 8, 10, 0);
        }
    };

    /** RICH with a text of 160 bytes. */
    static final Boundary.Setup FULL_TEXT = x -> {
        RICH.on(x);
        Boundary.write(x, padded("b1 1 9 9;", 160));
    };

    /** A text with spaces behind it. */
    static String padded(String text, int length) {
        return text + " ".repeat(length - text.length());
    }

    private States() {
    }
}
