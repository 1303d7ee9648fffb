/** A checker for packaging die-lines: folds a carton blank exactly and lists what is wrong with it. */
public final class DieLineChecker {
    public static final int BAD = -1, STATE = -2, FULL = -3, CLASH = -4, NONE = -9;

    // What a check answers if no error code applies.
    private static final int FINE = 0;

    private static final int MOST_PANELS = 10;
    private static final int MOST_IMAGES = 4;
    private static final int MOST_TEXT = 160;
    private static final int MOST_ACTS = 12;
    private static final int SLOTS = 2;
    private static final int FIRST_SHEET = 200;

    private static final int TOLERANCE = 0, BLEED = 1, GLUE_BLEED = 2, COVERAGE = 3, LIMITS = 4;
    private static final int MOST_TOLERANCE = 20, MOST_COVERAGE = 100;

    private static final int OPEN = 0, CROSSING = 1, DOUBLED = 2, GLUE = 3;
    private static final int SHORT_BLEED = 4, INTRUSION = 5, INK = 6, BREAK = 7, KINDS = 8;

    private static final int ALL_FOLDS = -1;
    private static final int MOST_TRIED_DEPTH = 100;

    // The steps out of a panel at its sides 0 to 3.
    private static final int[] OUT_X = {0, 1, 0, -1};
    private static final int[] OUT_Y = {-1, 0, 1, 0};

    private final Design design = new Design();
    private final Design trial = new Design();
    private final Design[] slots = new Design[SLOTS];
    private final boolean[] slotUsed = new boolean[SLOTS];
    private final History history = new History();
    private final int[] text = new int[MOST_TEXT];
    private final Reader reader = new Reader();
    private final Blank blank = new Blank();
    // The findings hold what they rest on; the calls use the same parts.
    private final Findings findings = new Findings();
    private final Artwork artwork = findings.artwork;
    private final Seams seams = findings.seams;
    private final Folding folding = findings.folding;
    private final int[] limits = findings.limits;
    private final int[] weights = findings.weights;
    private int textLength = 0;
    private int latestFault = 0;

    public DieLineChecker() {
        for (int i = 0; i < SLOTS; i++) {
            slots[i] = new Design();
        }
    }

    // ---- text

    public int type(int letter) {
        if (letter < 0 || letter > 127) {
            return BAD;
        }
        if (textLength < 0 || textLength >= text.length) {
            return FULL;
        }
        text[textLength] = letter;
        textLength++;
        return textLength;
    }

    public int clearText() {
        int had = textLength;
        textLength = 0;
        return had;
    }

    public int load() {
        int answer = reader.read(text, textLength);
        latestFault = reader.fault;
        if (latestFault == 0) {
            design.become(reader.draft);
            history.forgetAll();
        }
        return answer;
    }

    public int faultKind() {
        return latestFault;
    }

    // ---- design

    public int setSheet(int width, int height) {
        int fault = design.sheetFault(width, height);
        if (fault != FINE) {
            return fault;
        }
        history.remember(design, limits, weights);
        return design.changeSheet(width, height);
    }

    public int setBase(int x, int y, int width, int height) {
        int fault = design.baseFault(x, y, width, height);
        if (fault != FINE) {
            return fault;
        }
        history.remember(design, limits, weights);
        return design.startBase(x, y, width, height);
    }

    public int addPanel(int parent, int side, int offset, int length, int depth, int angle) {
        int fault = design.hangFault(parent, side, offset, length, depth, angle);
        if (fault != FINE) {
            return fault;
        }
        history.remember(design, limits, weights);
        return design.hang(parent, side, offset, length, depth, angle);
    }

    public int removeLast() {
        int fault = design.dropFault();
        if (fault != FINE) {
            return fault;
        }
        history.remember(design, limits, weights);
        return design.dropLast();
    }

    public int setAngle(int panel, int angle) {
        if (!design.hangs(panel) || !isAngle(angle)) {
            return BAD;
        }
        history.remember(design, limits, weights);
        return design.turnFold(panel, angle);
    }

    public int setSize(int panel, int what, int value) {
        int fault = design.sizeFault(panel, what, value);
        if (fault != FINE) {
            return fault;
        }
        history.remember(design, limits, weights);
        return design.changeSize(panel, what, value);
    }

    public int setFlap(int panel, int target) {
        int fault = design.flapFault(panel, target);
        if (fault != FINE) {
            return fault;
        }
        history.remember(design, limits, weights);
        return design.changeTarget(panel, target);
    }

    public int defineImage(int image, int width, int height) {
        int fault = design.imageFault(image, width, height);
        if (fault != FINE) {
            return fault;
        }
        history.remember(design, limits, weights);
        return design.changeImage(image, width, height);
    }

    public int place(int panel, int image, int orientation, int px, int py) {
        int fault = design.printFault(panel, image, orientation, px, py);
        if (fault != FINE) {
            return fault;
        }
        history.remember(design, limits, weights);
        return design.print(panel, image, orientation, px, py);
    }

    public int clearImage(int panel) {
        int fault = design.bareFault(panel);
        if (fault != FINE) {
            return fault;
        }
        history.remember(design, limits, weights);
        return design.wipe(panel);
    }

    public int continueImage(int seam, boolean back) {
        findSeams();
        if (!seams.has(seam)) {
            return BAD;
        }
        if (!artwork.plan(design, seam, back)) {
            return STATE;
        }
        history.remember(design, limits, weights);
        artwork.carryOut(design);
        return artwork.orientation;
    }

    public int spreadImage(int panel) {
        int fault = design.bareFault(panel);
        if (fault != FINE) {
            return fault;
        }
        findSeams();
        history.remember(design, limits, weights);
        return artwork.spread(design, design.panelAt(panel).image);
    }

    public int setLimit(int which, int value) {
        if (which < 0 || which >= LIMITS || value < 0) {
            return BAD;
        }
        if (value > (which == COVERAGE ? MOST_COVERAGE : MOST_TOLERANCE)) {
            return BAD;
        }
        history.remember(design, limits, weights);
        int previous = limits[which];
        limits[which] = value;
        return previous;
    }

    public int setWeight(int kind, int weight) {
        if (kind < 0 || kind >= KINDS || weight < 0 || weight > 9) {
            return BAD;
        }
        history.remember(design, limits, weights);
        int previous = weights[kind];
        weights[kind] = weight;
        return previous;
    }

    public int undo() {
        if (history.kept == 0) {
            return STATE;
        }
        history.recall(design, limits, weights);
        return history.kept;
    }

    public int save(int slot) {
        if (slot < 0 || slot >= SLOTS) {
            return BAD;
        }
        slots[slot].become(design);
        slotUsed[slot] = true;
        return design.panelCount;
    }

    public int restore(int slot) {
        if (slot < 0 || slot >= SLOTS) {
            return BAD;
        }
        if (!slotUsed[slot]) {
            return STATE;
        }
        history.remember(design, limits, weights);
        design.become(slots[slot]);
        return design.panelCount;
    }

    // ---- the flat design

    public int flat(int panel, int what) {
        if (!design.has(panel)) {
            return BAD;
        }
        Panel own = design.panelAt(panel);
        switch (what) {
            case 0:
                return own.x;
            case 1:
                return own.y;
            case 2:
                return own.width;
            case 3:
                return own.height;
            default:
                return BAD;
        }
    }

    public int cutLength() {
        return blank.cuts(design);
    }

    public int creaseLength() {
        return blank.creases(design);
    }

    public int pitch(int axis, int gap, boolean turned) {
        int fault = pitchFault(axis, gap);
        return fault != FINE ? fault : blank.leastPitch(design, axis, gap, turned);
    }

    public int rowCount(int axis, int gap) {
        int fault = pitchFault(axis, gap);
        return fault != FINE ? fault : blank.copiesInRow(design, axis, gap);
    }

    // ---- the folded design

    public int corner(int panel, int corner, int axis) {
        if (!design.has(panel) || corner < 0 || corner > 3 || axis < 0 || axis > 2) {
            return BAD;
        }
        folding.fold(design, ALL_FOLDS);
        return folding.poseAt(panel).cornerAt(corner, axis);
    }

    public int facing(int panel) {
        if (!design.has(panel)) {
            return BAD;
        }
        folding.fold(design, ALL_FOLDS);
        return folding.poseAt(panel).normal;
    }

    public int openLength(int panel, int side) {
        if (!design.has(panel) || side < 0 || side > 3) {
            return BAD;
        }
        findSeams();
        return seams.open(panel, side);
    }

    public int seamCount() {
        findSeams();
        return seams.size;
    }

    public int seam(int seam, int what) {
        findSeams();
        if (!seams.has(seam) || what < 0 || what > 7) {
            return BAD;
        }
        return what == 7 ? artwork.mismatch(design, seam) : seams.value(design, seam, what);
    }

    public int coverage(int panel) {
        if (!design.has(panel)) {
            return BAD;
        }
        if (!design.panelAt(panel).isFlap()) {
            return NONE;
        }
        folding.fold(design, ALL_FOLDS);
        return folding.covered(design, panel, limits[TOLERANCE]);
    }

    public long volume() {
        findSeams();
        if (design.panelCount == 0 || findings.anyOpen(design)) {
            return STATE;
        }
        return folding.enclosed(design);
    }

    public int leastTolerance() {
        folding.fold(design, ALL_FOLDS);
        for (int tolerance = 0; tolerance <= MOST_TOLERANCE; tolerance++) {
            if (findings.isClosed(design, tolerance)) {
                return tolerance;
            }
        }
        return NONE;
    }

    public int crossings(int folds) {
        if (folds < 0 || (folds & 1) != 0 || folds >= (1 << design.panelCount)) {
            return BAD;
        }
        folding.fold(design, folds);
        return folding.crossingPairs(limits[TOLERANCE]);
    }

    public int foldStep(int k) {
        if (k < 0) {
            return BAD;
        }
        int steps = folding.findOrder(design, limits[TOLERANCE]);
        return k < steps ? folding.orderAt(k) : NONE;
    }

    // ---- images

    public int imageAt(int panel, int x, int y, int axis) {
        if (!design.has(panel) || !isPosition(x) || !isPosition(y) || axis < 0 || axis > 1) {
            return BAD;
        }
        Panel on = design.panelAt(panel);
        if (on.image == NONE) {
            return NONE;
        }
        return axis == 0 ? Artwork.imageU(design, on, x, y) : Artwork.imageV(design, on, x, y);
    }

    public int reach(int panel, int side) {
        if (!design.has(panel) || side < 0 || side > 3) {
            return BAD;
        }
        return Artwork.reachAt(design, design.panelAt(panel), side);
    }

    // ---- findings

    public int findingCount() {
        findings.collect(design);
        return findings.size;
    }

    public int finding(int finding, int what) {
        findings.collect(design);
        if (finding < 0 || finding >= findings.size || what < 0 || what > 5) {
            return BAD;
        }
        findings.sort();
        return findings.value(finding, what);
    }

    public long totalCost() {
        findings.collect(design);
        return findings.sum;
    }

    public long panelCost(int panel) {
        if (!design.has(panel)) {
            return BAD;
        }
        findings.collect(design);
        return findings.sumAbout(panel);
    }

    public int bestDepth(int panel) {
        if (!design.hangs(panel)) {
            return BAD;
        }
        trial.become(design);
        int present = design.panelAt(panel).depth;
        int best = NONE;
        long least = 0;
        for (int depth = 1; depth <= MOST_TRIED_DEPTH; depth++) {
            trial.panelAt(panel).depth = depth;
            trial.layOutAll();
            if (trial.isValid()) {
                findings.collect(trial);
                boolean nearer = Math.abs(depth - present) < Math.abs(best - present);
                if (best == NONE || findings.sum < least || (findings.sum == least && nearer)) {
                    best = depth;
                    least = findings.sum;
                }
            }
        }
        return best;
    }

    public int bestAngle(int panel) {
        if (!design.hangs(panel)) {
            return BAD;
        }
        trial.become(design);
        findings.collect(trial);
        int best = trial.panelAt(panel).angle;
        long least = findings.sum;
        for (int angle = -1; angle <= 2; angle++) {
            trial.panelAt(panel).angle = angle;
            findings.collect(trial);
            if (findings.sum < least) {
                best = angle;
                least = findings.sum;
            }
        }
        return best;
    }

    public int count(int what) {
        switch (what) {
            case 0:
                return design.panelCount;
            case 1:
                return history.kept;
            case 2:
                return (slotUsed[0] ? 1 : 0) + (slotUsed[1] ? 1 : 0);
            case 3:
                return textLength;
            case 4:
                return design.foldedPanels();
            case 5:
                return design.flaps();
            case 6:
                return design.definedImages();
            default:
                return BAD;
        }
    }

    private void findSeams() {
        folding.fold(design, ALL_FOLDS);
        seams.find(limits[TOLERANCE]);
    }

    private int pitchFault(int axis, int gap) {
        if (axis < 0 || axis > 1 || gap < 0 || gap > 50) {
            return BAD;
        }
        return design.panelCount == 0 ? STATE : FINE;
    }

    private static boolean isAngle(int angle) {
        return angle >= -1 && angle <= 2;
    }

    private static boolean isPosition(int value) {
        return value >= -300 && value <= 300;
    }

    private static boolean isLength(int value) {
        return value >= 1 && value <= 300;
    }

    private static boolean isOffset(int value) {
        return value >= 0 && value <= 300;
    }

    /** The length that two extents have in common; 0 or less if they have no common part. */
    private static int common(int low, int high, int otherLow, int otherHigh) {
        return Math.min(high, otherHigh) - Math.max(low, otherLow);
    }

    /** A panel: what calls have set, and the rectangle in the flat design that follows from it. */
    private static final class Panel {
        int parent = NONE;
        int side = NONE;
        int offset, length, depth, angle;
        int target = NONE;
        int image = NONE;
        int orientation, px, py;
        int x, y, width, height;

        void become(Panel other) {
            parent = other.parent;
            side = other.side;
            offset = other.offset;
            length = other.length;
            depth = other.depth;
            angle = other.angle;
            target = other.target;
            image = other.image;
            orientation = other.orientation;
            px = other.px;
            py = other.py;
            x = other.x;
            y = other.y;
            width = other.width;
            height = other.height;
        }

        void makePlain() {
            target = NONE;
            image = NONE;
            orientation = 0;
            px = 0;
            py = 0;
        }

        boolean isFlap() {
            return target != NONE;
        }

        int nearSide() {
            return parent == NONE ? NONE : (side + 2) & 3;
        }

        boolean hangsOn(int panel, int itsSide) {
            return parent == panel && side == itsSide;
        }

        int sideLength(int which) {
            return (which & 1) == 0 ? width : height;
        }

        int lowOn(int axis) {
            return axis == 0 ? x : y;
        }

        int highOn(int axis) {
            return axis == 0 ? x + width : y + height;
        }

        boolean overlaps(Panel other) {
            return x < other.x + other.width && other.x < x + width
                && y < other.y + other.height && other.y < y + height;
        }
    }

    /** The sheet, the panels and the images. Each change comes with a check that must be asked first. */
    private static final class Design {
        final int[] imageWidth = new int[MOST_IMAGES];
        final int[] imageHeight = new int[MOST_IMAGES];
        int sheetWidth = FIRST_SHEET;
        int sheetHeight = FIRST_SHEET;
        int panelCount = 0;
        private final Panel[] panels = new Panel[MOST_PANELS];
        // Stands for panels that do not exist, so that no reference is ever null.
        private final Panel nobody = new Panel();

        Design() {
            for (int i = 0; i < MOST_PANELS; i++) {
                panels[i] = new Panel();
            }
        }

        void empty() {
            sheetWidth = FIRST_SHEET;
            sheetHeight = FIRST_SHEET;
            panelCount = 0;
            for (int i = 0; i < MOST_IMAGES; i++) {
                imageWidth[i] = 0;
                imageHeight[i] = 0;
            }
        }

        void become(Design other) {
            sheetWidth = other.sheetWidth;
            sheetHeight = other.sheetHeight;
            panelCount = other.panelCount;
            for (int i = 0; i < panelCount; i++) {
                panelAt(i).become(other.panelAt(i));
            }
            for (int i = 0; i < MOST_IMAGES; i++) {
                imageWidth[i] = other.imageWidth[i];
                imageHeight[i] = other.imageHeight[i];
            }
        }

        Panel panelAt(int panel) {
            return panel >= 0 && panel < MOST_PANELS ? panels[panel] : nobody;
        }

        boolean has(int panel) {
            return panel >= 0 && panel < panelCount;
        }

        boolean hangs(int panel) {
            return panel >= 1 && panel < panelCount;
        }

        boolean hasImage(int image) {
            return image >= 0 && image < MOST_IMAGES && imageWidth[image] > 0;
        }

        int imageWidthOf(int image) {
            return image >= 0 && image < MOST_IMAGES ? imageWidth[image] : 0;
        }

        int imageHeightOf(int image) {
            return image >= 0 && image < MOST_IMAGES ? imageHeight[image] : 0;
        }

        int sheetFault(int width, int height) {
            if (width < 20 || width > 300 || height < 20 || height > 300) {
                return BAD;
            }
            for (int i = 0; i < panelCount; i++) {
                Panel own = panelAt(i);
                if (own.x + own.width > width || own.y + own.height > height) {
                    return CLASH;
                }
            }
            return FINE;
        }

        int changeSheet(int width, int height) {
            int previous = sheetWidth;
            sheetWidth = width;
            sheetHeight = height;
            return previous;
        }

        int baseFault(int x, int y, int width, int height) {
            if (!isOffset(x) || !isOffset(y) || !isLength(width) || !isLength(height)) {
                return BAD;
            }
            return x + width > sheetWidth || y + height > sheetHeight ? CLASH : FINE;
        }

        int startBase(int x, int y, int width, int height) {
            int removed = panelCount;
            Panel base = panelAt(0);
            base.makePlain();
            base.parent = NONE;
            base.side = NONE;
            base.angle = 0;
            base.x = x;
            base.y = y;
            base.width = width;
            base.height = height;
            panelCount = 1;
            return removed;
        }

        int hangFault(int parent, int side, int offset, int length, int depth, int angle) {
            if (!has(parent) || side < 0 || side > 3 || !isOffset(offset)
                || !isLength(length) || !isLength(depth) || !isAngle(angle)) {
                return BAD;
            }
            if (panelCount >= MOST_PANELS) {
                return FULL;
            }
            draft(parent, side, offset, length, depth, angle);
            return fits(panelCount) ? FINE : CLASH;
        }

        int hang(int parent, int side, int offset, int length, int depth, int angle) {
            draft(parent, side, offset, length, depth, angle);
            panelCount++;
            return panelCount - 1;
        }

        // Writes behind the last panel only, so the design stays as it is.
        private void draft(int parent, int side, int offset, int length, int depth, int angle) {
            Panel next = panelAt(panelCount);
            next.makePlain();
            next.parent = parent;
            next.side = side;
            next.offset = offset;
            next.length = length;
            next.depth = depth;
            next.angle = angle;
            layOut(next, panelAt(parent));
        }

        private static void layOut(Panel own, Panel above) {
            boolean acrossX = (own.side & 1) == 0;
            own.width = acrossX ? own.length : own.depth;
            own.height = acrossX ? own.depth : own.length;
            own.x = above.x + (acrossX ? own.offset : own.side == 1 ? above.width : -own.depth);
            own.y = above.y + (!acrossX ? own.offset : own.side == 2 ? above.height : -own.depth);
        }

        void layOutAll() {
            for (int i = 1; i < panelCount; i++) {
                Panel own = panelAt(i);
                layOut(own, panelAt(own.parent));
            }
        }

        /** Whether a panel lies within the sheet and its parent's side, and clear of all panels before it. */
        private boolean fits(int panel) {
            Panel own = panelAt(panel);
            if (own.x < 0 || own.y < 0 || own.x + own.width > sheetWidth || own.y + own.height > sheetHeight) {
                return false;
            }
            if (panel > 0 && own.offset + own.length > panelAt(own.parent).sideLength(own.side)) {
                return false;
            }
            for (int i = 0; i < panel; i++) {
                if (own.overlaps(panelAt(i))) {
                    return false;
                }
            }
            return true;
        }

        boolean isValid() {
            for (int i = 0; i < panelCount; i++) {
                if (!fits(i)) {
                    return false;
                }
            }
            return true;
        }

        int dropFault() {
            if (panelCount == 0) {
                return STATE;
            }
            for (int i = 0; i < panelCount; i++) {
                if (panelAt(i).target == panelCount - 1) {
                    return STATE;
                }
            }
            return FINE;
        }

        int dropLast() {
            panelCount--;
            return panelCount;
        }

        int turnFold(int panel, int angle) {
            Panel own = panelAt(panel);
            int previous = own.angle;
            own.angle = angle;
            return previous;
        }

        int sizeFault(int panel, int what, int value) {
            if (!hangs(panel) || what < 0 || what > 2) {
                return BAD;
            }
            if (!(what == 0 ? isOffset(value) : isLength(value))) {
                return BAD;
            }
            int previous = changeSize(panel, what, value);
            boolean valid = isValid();
            changeSize(panel, what, previous);
            return valid ? FINE : CLASH;
        }

        int changeSize(int panel, int what, int value) {
            Panel own = panelAt(panel);
            int previous = what == 0 ? own.offset : what == 1 ? own.length : own.depth;
            if (what == 0) {
                own.offset = value;
            } else if (what == 1) {
                own.length = value;
            } else {
                own.depth = value;
            }
            layOutAll();
            return previous;
        }

        int flapFault(int panel, int target) {
            boolean another = has(target) && target != panel;
            return hangs(panel) && (target == NONE || another) ? FINE : BAD;
        }

        int changeTarget(int panel, int target) {
            Panel own = panelAt(panel);
            int previous = own.target;
            own.target = target;
            return previous;
        }

        int imageFault(int image, int width, int height) {
            if (image < 0 || image >= MOST_IMAGES) {
                return BAD;
            }
            return width < 1 || width > 200 || height < 1 || height > 200 ? BAD : FINE;
        }

        int changeImage(int image, int width, int height) {
            int before = hasImage(image) ? 1 : 0;
            if (image >= 0 && image < MOST_IMAGES) {
                imageWidth[image] = width;
                imageHeight[image] = height;
            }
            return before;
        }

        int printFault(int panel, int image, int orientation, int px, int py) {
            if (!has(panel) || image < 0 || image >= MOST_IMAGES || orientation < 0 || orientation > 7) {
                return BAD;
            }
            if (!isPosition(px) || !isPosition(py)) {
                return BAD;
            }
            return hasImage(image) ? FINE : STATE;
        }

        int print(int panel, int image, int orientation, int px, int py) {
            Panel on = panelAt(panel);
            int previous = on.image;
            on.image = image;
            on.orientation = orientation;
            on.px = px;
            on.py = py;
            return previous;
        }

        int bareFault(int panel) {
            if (!has(panel)) {
                return BAD;
            }
            return panelAt(panel).image == NONE ? STATE : FINE;
        }

        int wipe(int panel) {
            Panel on = panelAt(panel);
            int previous = on.image;
            on.image = NONE;
            return previous;
        }

        int foldedPanels() {
            int found = 0;
            for (int i = 1; i < panelCount; i++) {
                found += panelAt(i).angle != 0 ? 1 : 0;
            }
            return found;
        }

        int flaps() {
            int found = 0;
            for (int i = 1; i < panelCount; i++) {
                found += panelAt(i).isFlap() ? 1 : 0;
            }
            return found;
        }

        int definedImages() {
            int found = 0;
            for (int i = 0; i < MOST_IMAGES; i++) {
                found += hasImage(i) ? 1 : 0;
            }
            return found;
        }

        /** Whether a side consists of folds only: they never overlap, so their lengths add up. */
        boolean isAllFolds(int panel, int side) {
            Panel own = panelAt(panel);
            if (own.nearSide() == side) {
                return true;
            }
            int folded = 0;
            for (int i = panel + 1; i < panelCount; i++) {
                folded += panelAt(i).hangsOn(panel, side) ? panelAt(i).length : 0;
            }
            return folded >= own.sideLength(side);
        }
    }

    /** The states before the latest acts, kept in a ring. */
    private static final class History {
        int kept = 0;
        private int oldest = 0;
        private final Design[] designs = new Design[MOST_ACTS];
        private final int[][] keptLimits = new int[MOST_ACTS][LIMITS];
        private final int[][] keptWeights = new int[MOST_ACTS][KINDS];

        History() {
            for (int i = 0; i < MOST_ACTS; i++) {
                designs[i] = new Design();
            }
        }

        void forgetAll() {
            kept = 0;
            oldest = 0;
        }

        void remember(Design design, int[] limits, int[] weights) {
            if (kept >= MOST_ACTS) {
                oldest = (oldest + 1) % MOST_ACTS;
                kept = MOST_ACTS - 1;
            }
            int entry = (oldest + kept) % MOST_ACTS;
            designs[entry].become(design);
            copy(limits, keptLimits[entry]);
            copy(weights, keptWeights[entry]);
            kept++;
        }

        void recall(Design design, int[] limits, int[] weights) {
            if (kept <= 0) {
                return;
            }
            kept--;
            int entry = (oldest + kept) % MOST_ACTS;
            design.become(designs[entry]);
            copy(keptLimits[entry], limits);
            copy(keptWeights[entry], weights);
        }

        private static void copy(int[] from, int[] to) {
            for (int i = 0; i < from.length && i < to.length; i++) {
                to[i] = from[i];
            }
        }
    }

    /** Reads a text into a design of its own. */
    private static final class Reader {
        final Design draft = new Design();
        int fault = 0;
        private int faultAt = 0;
        private int items = 0;
        // The letter of the item that is being read; 0 between items.
        private int item = 0;
        private int got = 0;
        private boolean complete = false;
        private final int[] numbers = new int[6];

        int read(int[] text, int length) {
            draft.empty();
            fault = 0;
            items = 0;
            item = 0;
            for (int at = 0; at < length && at < text.length && fault == 0; at++) {
                complete = false;
                takeByte(text, length, at);
                if (complete && !carryOut()) {
                    fail(3, at);
                } else if (complete) {
                    item = 0;
                    items++;
                }
            }
            if (fault == 0 && item != 0) {
                fail(2, length);
            }
            return fault == 0 ? items : -10 - faultAt;
        }

        private void fail(int kind, int at) {
            fault = kind;
            faultAt = at;
        }

        private void takeByte(int[] text, int length, int at) {
            if (at < 0 || at >= text.length) {
                return;
            }
            int letter = text[at];
            if (isDigit(letter) || letter == '-') {
                // The other bytes of a number have been read with its first one.
                boolean inside = at > 0 && (isDigit(text[at - 1]) || text[at - 1] == '-');
                if (letter == '-' || !inside) {
                    takeNumber(text, length, at);
                }
            } else if (letter == ';') {
                endItem(at);
            } else if (numbersOf(letter) > 0) {
                beginItem(letter, at);
            } else if (letter != ' ') {
                fail(1, at);
            }
        }

        private void takeNumber(int[] text, int length, int at) {
            if (at < 0 || at >= text.length) {
                return;
            }
            boolean negative = text[at] == '-';
            int digits = 0;
            int value = 0;
            for (int i = negative ? at + 1 : at; i < length && i < text.length && isDigit(text[i]); i++) {
                digits++;
                value = digits > 3 ? value : 10 * value + text[i] - '0';
            }
            if (digits == 0 || digits > 3) {
                fail(1, at);
            } else if (item == 0 || got >= numbersOf(item) || got >= numbers.length) {
                fail(2, at);
            } else {
                numbers[got] = negative ? -value : value;
                got++;
            }
        }

        private void beginItem(int letter, int at) {
            if (item != 0) {
                fail(2, at);
                return;
            }
            item = letter;
            got = 0;
        }

        private void endItem(int at) {
            complete = item != 0 && got >= numbersOf(item);
            if (!complete) {
                fail(2, at);
            }
        }

        private static boolean isDigit(int letter) {
            return letter >= '0' && letter <= '9';
        }

        private static int numbersOf(int letter) {
            switch (letter) {
                case 's':
                case 'f':
                    return 2;
                case 'b':
                    return 4;
                case 'p':
                    return 6;
                case 'i':
                    return 3;
                case 'a':
                    return 5;
                default:
                    return 0;
            }
        }

        private boolean carryOut() {
            int[] n = numbers;
            switch (item) {
                case 's':
                    return draft.sheetFault(n[0], n[1]) == FINE && draft.changeSheet(n[0], n[1]) >= 0;
                case 'b':
                    return draft.baseFault(n[0], n[1], n[2], n[3]) == FINE
                        && draft.startBase(n[0], n[1], n[2], n[3]) >= 0;
                case 'p':
                    return hangPanel();
                case 'f':
                    return glue();
                case 'i':
                    return draft.imageFault(n[0], n[1], n[2]) == FINE && draft.changeImage(n[0], n[1], n[2]) >= 0;
                default:
                    return printImage();
            }
        }

        private boolean hangPanel() {
            int[] n = numbers;
            if (n[5] < 0 || n[5] > 3) {
                return false;
            }
            int angle = n[5] == 3 ? -1 : n[5];
            if (draft.hangFault(n[0], n[1], n[2], n[3], n[4], angle) != FINE) {
                return false;
            }
            draft.hang(n[0], n[1], n[2], n[3], n[4], angle);
            return true;
        }

        private boolean glue() {
            // The number of NONE is no panel, so a text cannot make a flap a plain panel again.
            if (!draft.has(numbers[1]) || draft.flapFault(numbers[0], numbers[1]) != FINE) {
                return false;
            }
            draft.changeTarget(numbers[0], numbers[1]);
            return true;
        }

        private boolean printImage() {
            int[] n = numbers;
            if (draft.printFault(n[0], n[1], n[2], n[3], n[4]) != FINE) {
                return false;
            }
            draft.print(n[0], n[1], n[2], n[3], n[4]);
            return true;
        }
    }

    /**
     * A panel in space. A direction is written as 2 times its axis, plus 1 if it falls,
     * so the opposite of a direction d is d ^ 1.
     */
    private static final class Pose {
        private static final int[] SIDE_BEGIN = {0, 1, 3, 0};
        private static final int[] SIDE_END = {1, 2, 2, 3};

        int normal;
        final int[] low = new int[3];
        final int[] high = new int[3];
        final int[] sideAxis = new int[4];
        final int[] sideLow = new int[4];
        final int[] sideHigh = new int[4];
        // The coordinates of a side on the two axes that follow its own one.
        final int[] sideNext = new int[4];
        final int[] sideLast = new int[4];
        private int u, v, width, height;
        private final int[] spot = new int[3];
        private final int[] sideBegin = new int[4];

        void layFlat(Panel base) {
            u = 0;
            v = 2;
            normal = 4;
            width = base.width;
            height = base.height;
            spot[0] = base.x;
            spot[1] = base.y;
            spot[2] = 0;
        }

        void hangOn(Pose above, Panel own, int angle) {
            int side = own.side;
            int out = above.outward(side);
            int into = angle == 0 ? out : angle == 1 ? above.normal ^ 1 : angle == 2 ? out ^ 1 : above.normal;
            normal = angle == 0 ? above.normal : angle == 1 ? out : angle == 2 ? above.normal ^ 1 : out ^ 1;
            boolean acrossX = (side & 1) == 0;
            u = acrossX ? above.u : side == 1 ? into : into ^ 1;
            v = !acrossX ? above.v : side == 2 ? into : into ^ 1;
            width = own.width;
            height = own.height;
            int begin = side == 1 ? 1 : side == 2 ? 3 : 0;
            for (int axis = 0; axis < 3; axis++) {
                spot[axis] = above.cornerAt(begin, axis) + own.offset * part(acrossX ? above.u : above.v, axis);
                if (side == 0 || side == 3) {
                    spot[axis] += own.depth * part(into, axis);
                }
            }
        }

        private int outward(int side) {
            return side == 0 ? v ^ 1 : side == 1 ? u : side == 2 ? v : u ^ 1;
        }

        /** The component of a direction on an axis. */
        private static int part(int direction, int axis) {
            return direction >> 1 != axis ? 0 : (direction & 1) == 0 ? 1 : -1;
        }

        int cornerAt(int corner, int axis) {
            if (axis < 0 || axis > 2) {
                return 0;
            }
            int right = corner == 1 || corner == 2 ? width * part(u, axis) : 0;
            int up = corner == 2 || corner == 3 ? height * part(v, axis) : 0;
            return spot[axis] + right + up;
        }

        /** Takes the extents of the panel and its sides; to be called after each new placing. */
        void measure() {
            for (int axis = 0; axis < 3; axis++) {
                int one = spot[axis];
                int other = cornerAt(2, axis);
                low[axis] = Math.min(one, other);
                high[axis] = Math.max(one, other);
            }
            for (int side = 0; side < 4; side++) {
                int axis = ((side & 1) == 0 ? u : v) >> 1;
                int begin = cornerAt(SIDE_BEGIN[side], axis);
                int end = cornerAt(SIDE_END[side], axis);
                sideAxis[side] = axis;
                sideBegin[side] = begin;
                sideLow[side] = Math.min(begin, end);
                sideHigh[side] = Math.max(begin, end);
                sideNext[side] = cornerAt(SIDE_BEGIN[side], (axis + 1) % 3);
                sideLast[side] = cornerAt(SIDE_BEGIN[side], (axis + 2) % 3);
            }
        }

        /** The panel's x of the point of a side that has a coordinate on the side's axis. */
        int pointX(int side, int coordinate) {
            if (side < 0 || side > 3 || side == 3) {
                return 0;
            }
            return side == 1 ? width : Math.abs(coordinate - sideBegin[side]);
        }

        int pointY(int side, int coordinate) {
            if (side <= 0 || side > 3) {
                return 0;
            }
            return side == 2 ? height : Math.abs(coordinate - sideBegin[side]);
        }

        int lowOn(int axis) {
            return axis >= 0 && axis < 3 ? low[axis] : 0;
        }

        int highOn(int axis) {
            return axis >= 0 && axis < 3 ? high[axis] : 0;
        }

        /** The length that both panels have in common on an axis; 0 or less if there is no common part. */
        int commonOn(int axis, Pose other) {
            return Math.min(highOn(axis), other.highOn(axis)) - Math.max(lowOn(axis), other.lowOn(axis));
        }

        /** Whether the plane of another panel lies more than the tolerance inside the extent of this one. */
        boolean isCutBy(Pose other, int tolerance) {
            int axis = other.normal >> 1;
            int plane = other.lowOn(axis);
            return plane > lowOn(axis) + tolerance && plane < highOn(axis) - tolerance;
        }
    }

    /** The panels of a design in space, and the order of its folds. */
    private static final class Folding {
        int poseCount = 0;
        private final Pose[] poses = new Pose[MOST_PANELS];
        private final Pose nowhere = new Pose();
        private final int[] order = new int[MOST_PANELS];
        // The sets of folds from which the folding cannot be brought to its end.
        private final boolean[] dead = new boolean[1 << MOST_PANELS];

        Folding() {
            for (int i = 0; i < MOST_PANELS; i++) {
                poses[i] = new Pose();
            }
        }

        Pose poseAt(int panel) {
            return panel >= 0 && panel < MOST_PANELS ? poses[panel] : nowhere;
        }

        int orderAt(int step) {
            return step >= 0 && step < MOST_PANELS ? order[step] : NONE;
        }

        void fold(Design design, int made) {
            poseCount = design.panelCount;
            if (poseCount > 0) {
                poseAt(0).layFlat(design.panelAt(0));
                poseAt(0).measure();
            }
            for (int i = 1; i < poseCount; i++) {
                Panel own = design.panelAt(i);
                int angle = (made & (1 << i)) != 0 ? own.angle : 0;
                poseAt(i).hangOn(poseAt(own.parent), own, angle);
                poseAt(i).measure();
            }
        }

        /** The amount of the crossing of two panels; 0 if they do not cross. */
        int crossing(int p, int q, int tolerance) {
            Pose one = poseAt(p);
            Pose other = poseAt(q);
            int axis = one.normal >> 1;
            int otherAxis = other.normal >> 1;
            if (axis == otherAxis || !one.isCutBy(other, tolerance) || !other.isCutBy(one, tolerance)) {
                return 0;
            }
            return Math.max(0, one.commonOn(3 - axis - otherAxis, other));
        }

        int crossingPairs(int tolerance) {
            int pairs = 0;
            for (int p = 0; p < poseCount; p++) {
                for (int q = p + 1; q < poseCount; q++) {
                    pairs += crossing(p, q, tolerance) > 0 ? 1 : 0;
                }
            }
            return pairs;
        }

        /** The common area of two panels; 0 if they are not doubled. */
        int doubled(int p, int q, int tolerance) {
            Pose one = poseAt(p);
            Pose other = poseAt(q);
            int axis = one.normal >> 1;
            if (axis != other.normal >> 1 || Math.abs(one.lowOn(axis) - other.lowOn(axis)) > tolerance) {
                return 0;
            }
            int first = one.commonOn((axis + 1) % 3, other);
            int second = one.commonOn((axis + 2) % 3, other);
            return first > 0 && second > 0 ? first * second : 0;
        }

        /** The covered percentage of a flap. */
        int covered(Design design, int panel, int tolerance) {
            Panel flap = design.panelAt(panel);
            int area = flap.width * flap.height;
            if (area <= 0 || poseAt(panel).normal != poseAt(flap.target).normal) {
                return 0;
            }
            return 100 * doubled(panel, flap.target, tolerance) / area;
        }

        long enclosed(Design design) {
            long sum = 0;
            for (int i = 0; i < poseCount; i++) {
                Panel own = design.panelAt(i);
                Pose pose = poseAt(i);
                long part = (long) own.width * own.height * pose.lowOn(pose.normal >> 1);
                if (!own.isFlap()) {
                    sum += (pose.normal & 1) == 0 ? part : -part;
                }
            }
            return Math.abs(sum) / 3;
        }

        /** Finds the first order of all folds without crossings, and returns its length; 0 if there is none. */
        int findOrder(Design design, int tolerance) {
            int all = 0;
            for (int i = 1; i < design.panelCount; i++) {
                all |= design.panelAt(i).angle != 0 ? 1 << i : 0;
            }
            for (int i = 0; i <= all && i < dead.length; i++) {
                dead[i] = false;
            }
            int made = 0;
            int steps = 0;
            // Each round makes a fold or marks a set as dead, so this bound is never reached.
            for (int round = 0; round < 4 * dead.length && made != all; round++) {
                int next = nextFold(design, made, all & ~made, tolerance);
                if (next != NONE && steps < order.length) {
                    order[steps] = next;
                    steps++;
                    made |= 1 << next;
                } else if (steps > 0 && made < dead.length) {
                    dead[made] = true;
                    steps--;
                    made &= ~(1 << order[steps]);
                } else {
                    return 0;
                }
            }
            return made == all ? steps : 0;
        }

        private int nextFold(Design design, int made, int left, int tolerance) {
            for (int i = 1; i < MOST_PANELS; i++) {
                int then = made | (1 << i);
                if ((left & (1 << i)) != 0 && then < dead.length && !dead[then]) {
                    fold(design, then);
                    if (crossingPairs(tolerance) == 0) {
                        return i;
                    }
                    dead[then] = true;
                }
            }
            return NONE;
        }
    }

    /** A set of extents on one line. */
    private static final class Cover {
        private static final int MOST = 4 * MOST_PANELS;

        private int size = 0;
        private final int[] lows = new int[MOST];
        private final int[] highs = new int[MOST];

        void empty() {
            size = 0;
        }

        /** Adds an extent, in the order of the lower ends. */
        void add(int low, int high) {
            if (size >= MOST) {
                return;
            }
            int at = size;
            while (at > 0 && lows[at - 1] > low) {
                lows[at] = lows[at - 1];
                highs[at] = highs[at - 1];
                at--;
            }
            lows[at] = low;
            highs[at] = high;
            size++;
        }

        /** The length of the part of an extent that belongs to no extent of the set. */
        int uncovered(int low, int high) {
            int reached = low;
            int open = 0;
            for (int i = 0; i < size && reached < high; i++) {
                open += Math.max(0, Math.min(lows[i], high) - reached);
                reached = Math.max(reached, highs[i]);
            }
            return open + Math.max(0, high - reached);
        }
    }

    /** The seams of a folded design, in their order. */
    private static final class Seams {
        // Two panels have at most 8 pairs of sides with the same axis, and there are 45 pairs of panels.
        private static final int MOST = 360;

        int size = 0;
        final Folding folding = new Folding();
        private int tolerance = 0;
        // A side is written as 4 times its panel plus its number.
        private final int[] sideP = new int[MOST];
        private final int[] sideQ = new int[MOST];
        private final int[] lows = new int[MOST];
        private final int[] highs = new int[MOST];
        private final int[] gaps = new int[MOST];
        private final Cover cover = new Cover();

        void find(int within) {
            size = 0;
            tolerance = within;
            for (int p = 0; p < folding.poseCount; p++) {
                for (int side = 0; side < 4; side++) {
                    for (int q = p + 1; q < folding.poseCount; q++) {
                        joinSide(p, side, q);
                    }
                }
            }
        }

        // A fold needs no care here: the two sides lie on each other there, so they meet with the gap 0.
        private void joinSide(int p, int side, int q) {
            if (side < 0 || side > 3) {
                return;
            }
            Pose one = folding.poseAt(p);
            Pose other = folding.poseAt(q);
            for (int otherSide = 0; otherSide < 4; otherSide++) {
                if (one.sideAxis[side] == other.sideAxis[otherSide]) {
                    int gap = Math.max(Math.abs(one.sideNext[side] - other.sideNext[otherSide]),
                        Math.abs(one.sideLast[side] - other.sideLast[otherSide]));
                    int low = Math.max(one.sideLow[side], other.sideLow[otherSide]);
                    int high = Math.min(one.sideHigh[side], other.sideHigh[otherSide]);
                    if (gap <= tolerance && low < high && size < MOST) {
                        sideP[size] = 4 * p + side;
                        sideQ[size] = 4 * q + otherSide;
                        lows[size] = low;
                        highs[size] = high;
                        gaps[size] = gap;
                        size++;
                    }
                }
            }
        }

        boolean has(int seam) {
            return seam >= 0 && seam < size && seam < MOST;
        }

        int panelP(int seam) {
            return has(seam) ? sideP[seam] >> 2 : NONE;
        }

        int panelQ(int seam) {
            return has(seam) ? sideQ[seam] >> 2 : NONE;
        }

        int sideOfP(int seam) {
            return has(seam) ? sideP[seam] & 3 : 0;
        }

        int sideOfQ(int seam) {
            return has(seam) ? sideQ[seam] & 3 : 0;
        }

        int lowOf(int seam) {
            return has(seam) ? lows[seam] : 0;
        }

        int highOf(int seam) {
            return has(seam) ? highs[seam] : 0;
        }

        int value(Design design, int seam, int what) {
            if (!has(seam)) {
                return BAD;
            }
            switch (what) {
                case 0:
                    return panelP(seam);
                case 1:
                    return sideOfP(seam);
                case 2:
                    return panelQ(seam);
                case 3:
                    return sideOfQ(seam);
                case 4:
                    return highs[seam] - lows[seam];
                case 5:
                    return gaps[seam];
                default:
                    return isFold(design, seam) ? 1 : 0;
            }
        }

        private boolean isFold(Design design, int seam) {
            Panel q = design.panelAt(panelQ(seam));
            return q.hangsOn(panelP(seam), sideOfP(seam)) && q.nearSide() == sideOfQ(seam);
        }

        /** The open length of a side. */
        int open(int panel, int side) {
            if (side < 0 || side > 3) {
                return 0;
            }
            int number = 4 * panel + side;
            cover.empty();
            for (int i = 0; i < size && i < MOST; i++) {
                if (sideP[i] == number || sideQ[i] == number) {
                    cover.add(lows[i] - tolerance, highs[i] + tolerance);
                }
            }
            Pose pose = folding.poseAt(panel);
            return cover.uncovered(pose.sideLow[side], pose.sideHigh[side]);
        }
    }

    /** How images lie on panels, and how they go on over seams. */
    private static final class Artwork {
        int orientation = 0;
        private int px = 0;
        private int py = 0;
        private int onto = NONE;
        private int image = NONE;
        final Seams seams = new Seams();
        private final Folding folding = seams.folding;
        // Three points of both panels of a seam: the lower end of the segment, its upper end,
        // and the lower end moved by one unit out of p and into q. Those of q stand behind those of p.
        private final int[] pointX = new int[6];
        private final int[] pointY = new int[6];
        private final int[] us = new int[6];
        private final int[] vs = new int[6];

        // The point (a, b) of the turned image at which the point (u, v) of an image comes to lie.

        private static int turnedA(int orientation, int w, int h, int u, int v) {
            int mirrored = orientation >= 4 ? w - u : u;
            switch (orientation & 3) {
                case 0:
                    return mirrored;
                case 1:
                    return h - v;
                case 2:
                    return w - mirrored;
                default:
                    return v;
            }
        }

        private static int turnedB(int orientation, int w, int h, int u, int v) {
            int mirrored = orientation >= 4 ? w - u : u;
            switch (orientation & 3) {
                case 0:
                    return v;
                case 1:
                    return mirrored;
                case 2:
                    return h - v;
                default:
                    return w - mirrored;
            }
        }

        // And the way back, from (a, b) to (u, v).

        private static int originalU(int orientation, int w, int a, int b) {
            int r = orientation & 3;
            int mirrored = r == 0 ? a : r == 1 ? b : r == 2 ? w - a : w - b;
            return orientation >= 4 ? w - mirrored : mirrored;
        }

        private static int originalV(int orientation, int h, int a, int b) {
            int r = orientation & 3;
            return r == 0 ? b : r == 1 ? h - a : r == 2 ? h - b : a;
        }

        static int imageU(Design design, Panel on, int x, int y) {
            return originalU(on.orientation, design.imageWidthOf(on.image), x - on.px, y - on.py);
        }

        static int imageV(Design design, Panel on, int x, int y) {
            return originalV(on.orientation, design.imageHeightOf(on.image), x - on.px, y - on.py);
        }

        /** The right end of the turned image on a panel. */
        static int rightEnd(Design design, Panel on) {
            boolean upright = (on.orientation & 1) == 0;
            return on.px + (upright ? design.imageWidthOf(on.image) : design.imageHeightOf(on.image));
        }

        static int upperEnd(Design design, Panel on) {
            boolean upright = (on.orientation & 1) == 0;
            return on.py + (upright ? design.imageHeightOf(on.image) : design.imageWidthOf(on.image));
        }

        static boolean shows(Design design, Panel on) {
            return isSeen(on, rightEnd(design, on), upperEnd(design, on));
        }

        private static boolean isSeen(Panel on, int right, int upper) {
            return on.image != NONE && on.px < on.width && on.py < on.height && right > 0 && upper > 0;
        }

        static int reachAt(Design design, Panel on, int side) {
            int right = rightEnd(design, on);
            int upper = upperEnd(design, on);
            if (!isSeen(on, right, upper)) {
                return NONE;
            }
            int beyond = side == 0 ? -on.py
                : side == 1 ? right - on.width
                : side == 2 ? upper - on.height
                : -on.px;
            return beyond >= 0 ? beyond : NONE;
        }

        private void takePoints(int seam) {
            Pose p = folding.poseAt(seams.panelP(seam));
            Pose q = folding.poseAt(seams.panelQ(seam));
            int sideP = seams.sideOfP(seam) & 3;
            int sideQ = seams.sideOfQ(seam) & 3;
            int low = seams.lowOf(seam);
            int high = seams.highOf(seam);
            takePoint(0, p.pointX(sideP, low), p.pointY(sideP, low));
            takePoint(1, p.pointX(sideP, high), p.pointY(sideP, high));
            takePoint(2, pointX[0] + OUT_X[sideP], pointY[0] + OUT_Y[sideP]);
            takePoint(3, q.pointX(sideQ, low), q.pointY(sideQ, low));
            takePoint(4, q.pointX(sideQ, high), q.pointY(sideQ, high));
            takePoint(5, pointX[3] - OUT_X[sideQ], pointY[3] - OUT_Y[sideQ]);
        }

        private void takePoint(int at, int x, int y) {
            if (at >= 0 && at < pointX.length) {
                pointX[at] = x;
                pointY[at] = y;
            }
        }

        /** Takes the image coordinates of the three points of a panel that stand from an index on. */
        private void takeCoordinates(Design design, Panel on, int first) {
            for (int i = Math.max(0, first); i < first + 3 && i < us.length; i++) {
                us[i] = imageU(design, on, pointX[i], pointY[i]);
                vs[i] = imageV(design, on, pointX[i], pointY[i]);
            }
        }

        int mismatch(Design design, int seam) {
            Panel p = design.panelAt(seams.panelP(seam));
            Panel q = design.panelAt(seams.panelQ(seam));
            if (p.image == NONE || p.image != q.image) {
                return NONE;
            }
            if (reachAt(design, p, seams.sideOfP(seam)) == NONE || reachAt(design, q, seams.sideOfQ(seam)) == NONE) {
                return NONE;
            }
            takePoints(seam);
            takeCoordinates(design, p, 0);
            takeCoordinates(design, q, 3);
            int greatest = 0;
            for (int i = 0; i < 2; i++) {
                greatest = Math.max(greatest, Math.abs(us[i] - us[i + 3]));
                greatest = Math.max(greatest, Math.abs(vs[i] - vs[i + 3]));
            }
            boolean sameWay = us[2] - us[0] == us[5] - us[3] && vs[2] - vs[0] == vs[5] - vs[3];
            return sameWay ? greatest : Math.max(100, greatest);
        }

        /** Finds how an image goes on over a seam; returns whether this is possible. */
        boolean plan(Design design, int seam, boolean back) {
            int from = back ? seams.panelQ(seam) : seams.panelP(seam);
            Panel source = design.panelAt(from);
            int side = back ? seams.sideOfQ(seam) : seams.sideOfP(seam);
            if (reachAt(design, source, side) == NONE) {
                return false;
            }
            onto = back ? seams.panelP(seam) : seams.panelQ(seam);
            image = source.image;
            takePoints(seam);
            takeCoordinates(design, source, back ? 3 : 0);
            for (int way = 0; way < 8; way++) {
                if (agrees(design, way, back)) {
                    orientation = way;
                    return isPosition(px) && isPosition(py);
                }
            }
            return false;
        }

        /** Whether an orientation, with the position that suits one point, suits the other two points as well. */
        private boolean agrees(Design design, int way, boolean back) {
            int source = back ? 3 : 0;
            int other = 3 - source;
            int w = design.imageWidthOf(image);
            int h = design.imageHeightOf(image);
            px = pointX[other] - turnedA(way, w, h, us[source], vs[source]);
            py = pointY[other] - turnedB(way, w, h, us[source], vs[source]);
            for (int i = 1; i < 3; i++) {
                int a = pointX[other + i] - px;
                int b = pointY[other + i] - py;
                if (originalU(way, w, a, b) != us[source + i] || originalV(way, h, a, b) != vs[source + i]) {
                    return false;
                }
            }
            return true;
        }

        void carryOut(Design design) {
            design.print(onto, image, orientation, px, py);
        }

        /** Spreads an image over seams, and returns on how many panels it was placed. */
        int spread(Design design, int which) {
            int placed = 0;
            for (int round = 0; round < MOST_PANELS; round++) {
                if (!spreadOnce(design, which)) {
                    break;
                }
                placed++;
            }
            return placed;
        }

        private boolean spreadOnce(Design design, int which) {
            for (int step = 0; step < 2 * seams.size; step++) {
                int seam = step / 2;
                boolean back = step % 2 == 1;
                Panel source = design.panelAt(back ? seams.panelQ(seam) : seams.panelP(seam));
                Panel other = design.panelAt(back ? seams.panelP(seam) : seams.panelQ(seam));
                boolean free = other.image == NONE && !other.isFlap();
                if (free && source.image == which && plan(design, seam, back)) {
                    carryOut(design);
                    return true;
                }
            }
            return false;
        }
    }

    /** The findings about a design, each written as one number by which they can be sorted. */
    private static final class Findings {
        // 40 open sides, 45 pairs, 18 about flaps, 40 bleeds, 400 intrusions and 360 breaks are fewer.
        private static final int MOST = 1000;
        // Above every cost: the greatest one is 9 times an area of 300 times 300.
        private static final long COST_TOP = 1L << 20;

        int size = 0;
        long sum = 0;
        final int[] limits = {1, 3, 2, 80};
        final int[] weights = {1, 1, 1, 1, 1, 1, 1, 1};
        final Artwork artwork = new Artwork();
        final Seams seams = artwork.seams;
        final Folding folding = seams.folding;
        private final long[] keys = new long[MOST];

        private int limit(int which) {
            return which >= 0 && which < limits.length ? limits[which] : 0;
        }

        private int weight(int kind) {
            return kind >= 0 && kind < weights.length ? weights[kind] : 0;
        }

        void collect(Design design) {
            size = 0;
            sum = 0;
            folding.fold(design, ALL_FOLDS);
            seams.find(limit(TOLERANCE));
            collectPairs(design);
            for (int panel = 0; panel < design.panelCount; panel++) {
                Panel own = design.panelAt(panel);
                if (own.isFlap()) {
                    collectFlap(design, panel);
                } else {
                    collectOpen(panel);
                }
                if (Artwork.shows(design, own)) {
                    collectPrint(design, panel);
                }
            }
            collectBreaks(design);
        }

        private void add(int kind, int panel, int side, int other, int amount) {
            int weight = weight(kind);
            if (amount <= 0 || weight <= 0 || size >= MOST) {
                return;
            }
            long cost = (long) weight * amount;
            int sideCode = side == NONE ? 0 : side + 1;
            int otherCode = other == NONE ? 0 : other + 1;
            keys[size] = (COST_TOP - cost) << 14 | (kind << 11 | panel << 7 | sideCode << 4 | otherCode);
            size++;
            sum += cost;
        }

        private void collectOpen(int panel) {
            if (weight(OPEN) == 0) {
                return;
            }
            for (int side = 0; side < 4; side++) {
                add(OPEN, panel, side, NONE, seams.open(panel, side));
            }
        }

        private void collectPairs(Design design) {
            for (int p = 0; p < design.panelCount; p++) {
                for (int q = p + 1; q < design.panelCount; q++) {
                    add(CROSSING, p, NONE, q, folding.crossing(p, q, limit(TOLERANCE)));
                    boolean glued = design.panelAt(p).target == q || design.panelAt(q).target == p;
                    if (!glued) {
                        add(DOUBLED, p, NONE, q, folding.doubled(p, q, limit(TOLERANCE)));
                    }
                }
            }
        }

        private void collectFlap(Design design, int panel) {
            Panel flap = design.panelAt(panel);
            int covered = folding.covered(design, panel, limit(TOLERANCE));
            add(GLUE, panel, NONE, flap.target, limit(COVERAGE) - covered);
            if (Artwork.shows(design, flap)) {
                add(INK, panel, NONE, NONE, inkDistance(design, flap) - limit(GLUE_BLEED));
            }
        }

        /** The greatest distance of ink on a flap from the line of its near side. */
        private static int inkDistance(Design design, Panel flap) {
            switch (flap.nearSide()) {
                case 0:
                    return Math.min(flap.height, Artwork.upperEnd(design, flap));
                case 1:
                    return flap.width - Math.max(0, flap.px);
                case 2:
                    return flap.height - Math.max(0, flap.py);
                default:
                    return Math.min(flap.width, Artwork.rightEnd(design, flap));
            }
        }

        private void collectPrint(Design design, int panel) {
            Panel own = design.panelAt(panel);
            for (int side = 0; side < 4; side++) {
                int reach = Artwork.reachAt(design, own, side);
                if (reach != NONE && !own.isFlap() && !design.isAllFolds(panel, side)) {
                    add(SHORT_BLEED, panel, side, NONE, limit(BLEED) - reach);
                }
                int strip = Math.min(reach, limit(BLEED));
                if (strip > 0) {
                    add(INTRUSION, panel, side, NONE, beyondSheet(design, own, side, strip));
                    collectIntrusions(design, panel, side, strip);
                }
            }
        }

        private static int beyondSheet(Design design, Panel own, int side, int strip) {
            switch (side) {
                case 0:
                    return strip - own.y;
                case 1:
                    return own.x + own.width + strip - design.sheetWidth;
                case 2:
                    return own.y + own.height + strip - design.sheetHeight;
                default:
                    return strip - own.x;
            }
        }

        private void collectIntrusions(Design design, int panel, int side, int strip) {
            Panel own = design.panelAt(panel);
            boolean acrossX = (side & 1) == 0;
            int along = acrossX ? 0 : 1;
            int across = 1 - along;
            int inkLow = acrossX ? Math.max(0, own.px) : Math.max(0, own.py);
            int inkHigh = acrossX ? Math.min(own.width, Artwork.rightEnd(design, own))
                : Math.min(own.height, Artwork.upperEnd(design, own));
            boolean lower = side == 0 || side == 3;
            int stripLow = lower ? own.lowOn(across) - strip : own.highOn(across);
            for (int i = 0; i < design.panelCount; i++) {
                Panel other = design.panelAt(i);
                boolean joined = other.hangsOn(panel, side) || (own.parent == i && own.nearSide() == side);
                int beside = common(own.lowOn(along) + inkLow, own.lowOn(along) + inkHigh,
                    other.lowOn(along), other.highOn(along));
                if (i != panel && !joined && beside > 0) {
                    int inside = common(stripLow, stripLow + strip, other.lowOn(across), other.highOn(across));
                    add(INTRUSION, panel, side, i, inside);
                }
            }
        }

        private void collectBreaks(Design design) {
            if (weight(BREAK) == 0) {
                return;
            }
            for (int seam = 0; seam < seams.size; seam++) {
                int mismatch = artwork.mismatch(design, seam);
                if (mismatch > limit(TOLERANCE)) {
                    add(BREAK, seams.panelP(seam), seams.sideOfP(seam), seams.panelQ(seam), mismatch);
                }
            }
        }

        /** Whether a panel that is not a flap has an open side; the seams must have been found. */
        boolean anyOpen(Design design) {
            for (int panel = 0; panel < design.panelCount; panel++) {
                for (int side = 0; side < 4; side++) {
                    if (!design.panelAt(panel).isFlap() && seams.open(panel, side) > 0) {
                        return true;
                    }
                }
            }
            return false;
        }

        /** Whether no side is open and every flap is covered with a tolerance; the design must be folded. */
        boolean isClosed(Design design, int tolerance) {
            for (int panel = 0; panel < design.panelCount; panel++) {
                if (design.panelAt(panel).isFlap()
                    && folding.covered(design, panel, tolerance) < limit(COVERAGE)) {
                    return false;
                }
            }
            seams.find(tolerance);
            return !anyOpen(design);
        }

        void sort() {
            for (int step = size / 2; step > 0; step /= 2) {
                for (int i = step; i < size && i < MOST; i++) {
                    long key = keys[i];
                    int at = i;
                    while (at >= step && keys[at - step] > key) {
                        keys[at] = keys[at - step];
                        at -= step;
                    }
                    keys[at] = key;
                }
            }
        }

        private static int kindOf(long key) {
            return (int) (key >> 11) & 7;
        }

        private static int panelOf(long key) {
            return (int) (key >> 7) & 15;
        }

        private static int sideOf(long key) {
            int code = (int) (key >> 4) & 7;
            return code == 0 ? NONE : code - 1;
        }

        private static int otherOf(long key) {
            int code = (int) key & 15;
            return code == 0 ? NONE : code - 1;
        }

        private static int costOf(long key) {
            return (int) (COST_TOP - (key >> 14));
        }

        int value(int finding, int what) {
            if (finding < 0 || finding >= size || finding >= MOST) {
                return BAD;
            }
            long key = keys[finding];
            int weight = weight(kindOf(key));
            switch (what) {
                case 0:
                    return kindOf(key);
                case 1:
                    return panelOf(key);
                case 2:
                    return sideOf(key);
                case 3:
                    return otherOf(key);
                case 4:
                    return weight > 0 ? costOf(key) / weight : 0;
                default:
                    return costOf(key);
            }
        }

        long sumAbout(int panel) {
            long about = 0;
            for (int i = 0; i < size && i < MOST; i++) {
                if (panelOf(keys[i]) == panel || otherOf(keys[i]) == panel) {
                    about += costOf(keys[i]);
                }
            }
            return about;
        }
    }

    /** The flat design: its cuts, and how its copies lie in a row. */
    private static final class Blank {
        // Behind every place at which copies can be too near: a sheet of 300 and a gap of 50.
        private static final int MOST_PITCH = 350;

        private final Cover cover = new Cover();
        private final boolean[] taken = new boolean[MOST_PITCH + 1];

        int creases(Design design) {
            int sum = 0;
            for (int i = 1; i < design.panelCount; i++) {
                sum += design.panelAt(i).angle != 0 ? design.panelAt(i).length : 0;
            }
            return sum;
        }

        int cuts(Design design) {
            int sum = 0;
            for (int i = 0; i < design.panelCount; i++) {
                for (int side = 0; side < 4; side++) {
                    sum += newLine(design, i, side);
                }
                // Folds never overlap, and all of them lie on the lines that have been counted.
                sum -= i > 0 ? design.panelAt(i).length : 0;
            }
            return sum;
        }

        /** The length of a side that lies on no side counted before it. */
        private int newLine(Design design, int panel, int side) {
            Panel own = design.panelAt(panel);
            int along = side & 1;
            int line = lineOf(own, side);
            cover.empty();
            for (int i = 0; i < panel; i++) {
                Panel other = design.panelAt(i);
                if (lineOf(other, side) == line || lineOf(other, side ^ 2) == line) {
                    cover.add(other.lowOn(along), other.highOn(along));
                }
            }
            return cover.uncovered(own.lowOn(along), own.highOn(along));
        }

        private static int lineOf(Panel panel, int side) {
            int across = 1 - (side & 1);
            return side == 0 || side == 3 ? panel.lowOn(across) : panel.highOn(across);
        }

        int copiesInRow(Design design, int axis, int gap) {
            int pitch = leastPitch(design, axis, gap, false);
            int room = (axis == 0 ? design.sheetWidth : design.sheetHeight)
                - (greatest(design, axis) - smallest(design, axis));
            return pitch > 0 ? 1 + room / pitch : 1;
        }

        private static int smallest(Design design, int axis) {
            int found = design.panelAt(0).lowOn(axis);
            for (int i = 1; i < design.panelCount; i++) {
                found = Math.min(found, design.panelAt(i).lowOn(axis));
            }
            return found;
        }

        private static int greatest(Design design, int axis) {
            int found = design.panelAt(0).highOn(axis);
            for (int i = 1; i < design.panelCount; i++) {
                found = Math.max(found, design.panelAt(i).highOn(axis));
            }
            return found;
        }

        int leastPitch(Design design, int axis, int gap, boolean turned) {
            for (int i = 0; i <= MOST_PITCH; i++) {
                taken[i] = false;
            }
            // Turning about the center brings a coordinate c to the sum of both ends minus c.
            int ends = smallest(design, axis) + greatest(design, axis);
            int otherEnds = smallest(design, 1 - axis) + greatest(design, 1 - axis);
            for (int i = 0; i < design.panelCount; i++) {
                for (int j = 0; j < design.panelCount; j++) {
                    Panel one = design.panelAt(i);
                    Panel copy = design.panelAt(j);
                    int low = turned ? ends - copy.highOn(axis) : copy.lowOn(axis);
                    int high = turned ? ends - copy.lowOn(axis) : copy.highOn(axis);
                    int otherLow = turned ? otherEnds - copy.highOn(1 - axis) : copy.lowOn(1 - axis);
                    int otherHigh = turned ? otherEnds - copy.lowOn(1 - axis) : copy.highOn(1 - axis);
                    if (-common(one.lowOn(1 - axis), one.highOn(1 - axis), otherLow, otherHigh) < gap) {
                        take(one.lowOn(axis) - high - gap + 1, one.highOn(axis) - low + gap - 1);
                    }
                }
            }
            for (int pitch = 1; pitch < MOST_PITCH; pitch++) {
                if (isFree(pitch, turned ? pitch : MOST_PITCH)) {
                    return pitch;
                }
            }
            return MOST_PITCH;
        }

        /** Marks the shifts at which two panels are too near. */
        private void take(int first, int last) {
            for (int shift = Math.max(0, first); shift <= last && shift <= MOST_PITCH; shift++) {
                taken[shift] = true;
            }
        }

        /** Whether no multiple of a pitch up to a limit is taken. */
        private boolean isFree(int pitch, int most) {
            for (int shift = pitch; shift > 0 && shift <= most && shift <= MOST_PITCH; shift += pitch) {
                if (taken[shift]) {
                    return false;
                }
            }
            return true;
        }
    }
}
