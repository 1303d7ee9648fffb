import java.util.ArrayList;
import java.util.List;
import java.util.Random;

/**
 * Runs of random calls, each compared with the slow Reference. The seeds are fixed, so every run is the same.
 * An argument tells how many runs to make.
 */
public final class RandomTest {
    private static final int[] WILD = {
        Integer.MIN_VALUE, Integer.MIN_VALUE + 1, Integer.MAX_VALUE, Integer.MAX_VALUE - 1,
        -10, -9, -8, -4, -3, -2, -1, 0, 1, 2, 3, 4, 5, 6, 7, 8, 9, 10, 11, 12, 19, 20, 21, 50, 51,
        100, 101, 127, 128, 160, 200, 201, 300, 301, -300, -301, 512, 1022, 1023, 1024, 65536, 1 << 30
    };

    private final Random random;
    private final DieLineChecker x = new DieLineChecker();
    private final Reference y = new Reference();
    private final List<String> trace = new ArrayList<>();
    private final long seed;
    // How many arguments in a hundred may be anything at all.
    private final int wildness;
    // The greatest length that is tried often.
    private final int size;
    private boolean wrong = false;

    private RandomTest(long seed) {
        this.seed = seed;
        random = new Random(seed);
        wildness = seed % 10 == 0 ? 40 : 3;
        size = seed % 4 == 3 ? 60 : 20;
    }

    public static void main(String[] args) {
        int runs = args.length > 0 ? Integer.parseInt(args[0]) : 400;
        long first = args.length > 1 ? Long.parseLong(args[1]) : 1;
        int bad = 0;
        for (long seed = first; seed < first + runs && bad < 5; seed++) {
            RandomTest test = new RandomTest(seed);
            test.run();
            bad += test.wrong ? 1 : 0;
        }
        System.out.println(bad == 0 ? runs + " random runs are as due" : bad + " random runs are not as due");
        if (bad != 0) {
            System.exit(1);
        }
    }

    private void run() {
        start();
        int calls = 30 + random.nextInt(120);
        for (int i = 0; i < calls && !wrong; i++) {
            step();
        }
    }

    private void due(String call, long got, long want) {
        trace.add(call + " = " + got);
        if (got != want && !wrong) {
            wrong = true;
            System.out.println("seed " + seed);
            for (String line : trace) {
                System.out.println("  " + line);
            }
            System.out.println("  due is " + want);
        }
    }

    private boolean odds(int percent) {
        return random.nextInt(100) < percent;
    }

    private int wild() {
        return WILD[random.nextInt(WILD.length)];
    }

    private int range(int low, int high) {
        return odds(wildness) ? wild() : low + random.nextInt(high - low + 1);
    }

    private int panel() {
        return odds(4) || y.now.n() == 0 ? range(-1, 10) : random.nextInt(y.now.n());
    }

    private int hung() {
        return odds(4) || y.now.n() < 2 ? range(-1, 10) : 1 + random.nextInt(y.now.n() - 1);
    }

    private int angle() {
        int k = random.nextInt(10);
        return odds(3) ? wild() : k < 6 ? 1 : k < 7 ? 0 : k < 9 ? -1 : 2;
    }

    // ---- beginnings

    private void start() {
        switch (random.nextInt(7)) {
            case 0:
                carton(10 + random.nextInt(size), 10 + random.nextInt(size), 5 + random.nextInt(size / 2));
                break;
            case 1:
                tray(3 + random.nextInt(size), 3 + random.nextInt(size), 1 + random.nextInt(size / 2));
                break;
            case 2:
                tiny();
                break;
            case 3:
                due("setSheet", x.setSheet(40, 45), y.setSheet(40, 45));
                tree(2 + random.nextInt(8));
                break;
            case 4:
            case 5:
                tree(2 + random.nextInt(8));
                break;
            default:
        }
        if (odds(70)) {
            image();
            for (int i = 0; i < 3; i++) {
                place();
            }
        }
    }

    private void base(int a, int b, int c, int d) {
        due("setBase(" + a + ", " + b + ", " + c + ", " + d + ")", x.setBase(a, b, c, d), y.setBase(a, b, c, d));
    }

    private void add(int a, int b, int c, int d, int e, int f) {
        due("addPanel(" + a + ", " + b + ", " + c + ", " + d + ", " + e + ", " + f + ")",
            x.addPanel(a, b, c, d, e, f), y.addPanel(a, b, c, d, e, f));
    }

    private void flap(int a, int b) {
        due("setFlap(" + a + ", " + b + ")", x.setFlap(a, b), y.setFlap(a, b));
    }

    private void carton(int w, int h, int d) {
        int s = odds(50) ? 1 : 3;
        int angle = odds(80) ? 1 : -1;
        base(90, 80, w, h);
        add(0, s, 0, h, d, angle);
        add(1, s, 0, h, w, angle);
        add(2, s, 0, h, d, angle);
        add(3, s, odds(50) ? 0 : 1, h - 2, 2 + random.nextInt(d), angle);
        flap(4, odds(80) ? 0 : 2);
        add(0, 2, 0, w, d, angle);
        add(0, 0, 0, w, d + (odds(20) ? 1 : 0), angle);
    }

    private void tray(int w, int h, int d) {
        base(80, 80, w, h);
        for (int s = 0; s < 4; s++) {
            add(0, s, 0, s % 2 == 0 ? w : h, d, 1);
        }
        if (odds(70)) {
            add(2, 2, 0, h, w, 1);
        }
        if (odds(50)) {
            add(1, 1, 0, d, 1 + random.nextInt(6), 1);
            flap(5, 2);
        }
    }

    private void tiny() {
        base(50, 50, 1 + random.nextInt(2), 1 + random.nextInt(2));
        tree(9);
        if (odds(50)) {
            due("setLimit(0, 20)", x.setLimit(0, 20), y.setLimit(0, 20));
        }
    }

    private void tree(int panels) {
        if (y.now.n() == 0) {
            int w = y.now.sheetW;
            base(w / 3 + random.nextInt(5), w / 3 + random.nextInt(5), 1 + random.nextInt(size), 1 + random.nextInt(size));
        }
        for (int i = 0; i < panels; i++) {
            addSome();
        }
    }

    private void addSome() {
        int parent = panel();
        int side = range(0, 3);
        int length = parent >= 0 && parent < y.now.n() ? y.now.sideLength(parent, side & 3) : 5;
        int offset = 0;
        if (odds(40) && length > 1) {
            offset = random.nextInt(length);
            length = 1 + random.nextInt(length - offset);
        }
        int depth = 1 + random.nextInt(size);
        if (odds(50) && y.now.n() > 0) {
            int[] r = y.now.rect(random.nextInt(y.now.n()));
            depth = r[2 + random.nextInt(2)];
        }
        add(parent, side, odds(3) ? wild() : offset, odds(3) ? wild() : length, odds(3) ? wild() : depth, angle());
    }

    private void image() {
        int a = range(0, 3), b = odds(50) ? range(1, 200) : range(1, 30), c = odds(50) ? range(1, 200) : range(1, 30);
        due("defineImage(" + a + ", " + b + ", " + c + ")", x.defineImage(a, b, c), y.defineImage(a, b, c));
    }

    private void place() {
        int a = panel(), b = odds(80) ? random.nextInt(2) : range(0, 3), c = range(0, 7);
        int d = odds(80) ? range(-20, 8) : range(-300, 300), e = odds(80) ? range(-20, 8) : range(-300, 300);
        due("place(" + a + ", " + b + ", " + c + ", " + d + ", " + e + ")", x.place(a, b, c, d, e), y.place(a, b, c, d, e));
    }

    // ---- single calls

    private void step() {
        int k = random.nextInt(46);
        if (k < 4) {
            text(k);
        } else if (k < 21) {
            design(k);
        } else {
            query(k);
        }
    }

    private void text(int k) {
        if (k == 0) {
            int letter = range(0, 127);
            due("type(" + letter + ")", x.type(letter), y.type(letter));
        } else if (k == 1 && odds(30)) {
            due("clearText()", x.clearText(), y.clearText());
            String written = odds(90) ? writing() : mess();
            for (char c : written.toCharArray()) {
                due("type(" + (int) c + ")", x.type(c), y.type(c));
            }
            due("load() of " + written, x.load(), y.load());
            due("faultKind()", x.faultKind(), y.fault);
        } else if (k == 2) {
            due("faultKind()", x.faultKind(), y.fault);
        } else if (k == 3 && odds(10)) {
            due("load() of " + y.text, x.load(), y.load());
        }
    }

    private String mess() {
        StringBuilder s = new StringBuilder();
        int length = random.nextInt(30);
        for (int i = 0; i < length; i++) {
            s.append("sbpfia;  --0123456789xB\n".charAt(random.nextInt(24)));
        }
        return s.toString();
    }

    private String writing() {
        StringBuilder s = new StringBuilder();
        if (odds(30)) {
            item(s, 's', 100 + random.nextInt(100), 100 + random.nextInt(201));
        }
        int w = 5 + random.nextInt(20), h = 5 + random.nextInt(20);
        item(s, 'b', 40 + random.nextInt(9), 40, w, h);
        for (int i = random.nextInt(5); i > 0; i--) {
            int side = random.nextInt(4);
            item(s, 'p', odds(80) ? 0 : 1, side, 0, side % 2 == 0 ? w : h, 1 + random.nextInt(9), odds(97) ? random.nextInt(4) : -1);
        }
        if (odds(50)) {
            item(s, 'f', 1, odds(80) ? 0 : odds(50) ? -9 : 1);
        }
        if (odds(70)) {
            item(s, 'i', random.nextInt(2), 1 + random.nextInt(60), 1 + random.nextInt(60));
            item(s, 'a', random.nextInt(2), random.nextInt(2), random.nextInt(8), -random.nextInt(20), random.nextInt(20));
        }
        for (int i = random.nextInt(6) - 3; i > 0 && s.length() > 0; i--) {
            int at = random.nextInt(s.length());
            if (odds(50)) {
                s.deleteCharAt(at);
            } else {
                s.insert(at, "sbpfia;  --0123456789x".charAt(random.nextInt(22)));
            }
        }
        return s.toString();
    }

    private void item(StringBuilder s, char letter, int... numbers) {
        s.append(letter);
        for (int i = 0; i < numbers.length; i++) {
            s.append(i > 0 && numbers[i] >= 0 || odds(10) ? " " : "").append(numbers[i]);
        }
        s.append(odds(10) ? " ; " : ";");
    }

    private void design(int k) {
        int a, b, c, d;
        switch (k) {
            case 4:
                a = odds(80) ? 100 + random.nextInt(201) : range(20, 300);
                b = odds(80) ? 100 + random.nextInt(201) : range(20, 300);
                due("setSheet(" + a + ", " + b + ")", x.setSheet(a, b), y.setSheet(a, b));
                break;
            case 5:
                if (odds(10)) {
                    base(range(0, 100), range(0, 100), range(1, 60), range(1, 60));
                }
                break;
            case 6:
            case 7:
                addSome();
                break;
            case 8:
                due("removeLast()", x.removeLast(), y.removeLast());
                break;
            case 9:
                a = hung();
                b = angle();
                due("setAngle(" + a + ", " + b + ")", x.setAngle(a, b), y.setAngle(a, b));
                break;
            case 10:
                a = hung();
                b = range(0, 2);
                c = range(b == 0 ? 0 : 1, size);
                due("setSize(" + a + ", " + b + ", " + c + ")", x.setSize(a, b, c), y.setSize(a, b, c));
                break;
            case 11:
                flap(hung(), odds(30) ? -9 : panel());
                break;
            case 12:
                image();
                break;
            case 13:
                place();
                break;
            case 14:
                a = panel();
                due("clearImage(" + a + ")", x.clearImage(a), y.clearImage(a));
                break;
            case 15:
                a = seam();
                boolean back = odds(50);
                due("continueImage(" + a + ", " + back + ")", x.continueImage(a, back), y.continueImage(a, back));
                break;
            case 16:
                a = panel();
                due("spreadImage(" + a + ")", x.spreadImage(a), y.spreadImage(a));
                break;
            case 17:
                a = range(0, 3);
                b = range(0, a == 3 ? 100 : a == 0 && size < 60 ? 4 : 20);
                due("setLimit(" + a + ", " + b + ")", x.setLimit(a, b), y.setLimit(a, b));
                break;
            case 18:
                a = range(0, 7);
                b = range(0, 9);
                due("setWeight(" + a + ", " + b + ")", x.setWeight(a, b), y.setWeight(a, b));
                break;
            case 19:
                for (int i = odds(10) ? 13 : 1; i > 0; i--) {
                    due("undo()", x.undo(), y.undo());
                }
                break;
            default:
                a = range(0, 1);
                if (odds(50)) {
                    due("save(" + a + ")", x.save(a), y.save(a));
                } else {
                    due("restore(" + a + ")", x.restore(a), y.restore(a));
                }
        }
    }

    private int seam() {
        int seams = y.seamCount();
        return odds(4) || seams == 0 ? range(-1, 30) : random.nextInt(seams);
    }

    private void query(int k) {
        int a, b, c, d;
        switch (k) {
            case 21:
                a = panel();
                b = range(0, 3);
                due("flat(" + a + ", " + b + ")", x.flat(a, b), y.flat(a, b));
                break;
            case 22:
                due("cutLength()", x.cutLength(), y.cutLength());
                due("creaseLength()", x.creaseLength(), y.creaseLength());
                break;
            case 23:
            case 24:
                a = range(0, 1);
                b = odds(50) ? range(0, 5) : range(0, 50);
                boolean turned = odds(50);
                due("pitch(" + a + ", " + b + ", " + turned + ")", x.pitch(a, b, turned), y.pitch(a, b, turned));
                break;
            case 25:
                a = range(0, 1);
                b = range(0, 50);
                due("rowCount(" + a + ", " + b + ")", x.rowCount(a, b), y.rowCount(a, b));
                break;
            case 26:
                a = panel();
                b = range(0, 3);
                c = range(0, 2);
                due("corner(" + a + ", " + b + ", " + c + ")", x.corner(a, b, c), y.corner(a, b, c));
                break;
            case 27:
                a = panel();
                due("facing(" + a + ")", x.facing(a), y.facing(a));
                break;
            case 28:
                a = panel();
                b = range(0, 3);
                due("openLength(" + a + ", " + b + ")", x.openLength(a, b), y.openLength(a, b));
                break;
            case 29:
                due("seamCount()", x.seamCount(), y.seamCount());
                break;
            case 30:
            case 31:
                a = seam();
                b = odds(50) ? 7 : range(0, 7);
                due("seam(" + a + ", " + b + ")", x.seam(a, b), y.seam(a, b));
                break;
            case 32:
                a = panel();
                due("coverage(" + a + ")", x.coverage(a), y.coverage(a));
                break;
            case 33:
                due("volume()", x.volume(), y.volume());
                break;
            default:
                furtherQuery(k);
        }
    }

    private void furtherQuery(int k) {
        int a, b, c, d;
        switch (k) {
            case 34:
                due("leastTolerance()", x.leastTolerance(), y.leastTolerance());
                break;
            case 35:
                a = odds(10) ? wild() : random.nextInt(1 << Math.max(1, y.now.n())) & (odds(95) ? ~1 : ~0);
                due("crossings(" + a + ")", x.crossings(a), y.crossings(a));
                break;
            case 36:
                if (y.count(4) <= 6) {
                    a = range(0, 8);
                    due("foldStep(" + a + ")", x.foldStep(a), y.foldStep(a));
                }
                break;
            case 37:
                a = panel();
                b = range(-300, 300);
                c = range(-300, 300);
                d = range(0, 1);
                due("imageAt(" + a + ", " + b + ", " + c + ", " + d + ")", x.imageAt(a, b, c, d), y.imageAt(a, b, c, d));
                break;
            case 38:
                a = panel();
                b = range(0, 3);
                due("reach(" + a + ", " + b + ")", x.reach(a, b), y.reach(a, b));
                break;
            case 39:
                due("findingCount()", x.findingCount(), y.findingCount());
                break;
            case 40:
            case 41:
                a = odds(95) ? random.nextInt(1 + y.findingCount()) : wild();
                for (b = 0; b <= 5; b++) {
                    due("finding(" + a + ", " + b + ")", x.finding(a, b), y.finding(a, b));
                }
                b = wild();
                due("finding(" + a + ", " + b + ")", x.finding(a, b), y.finding(a, b));
                break;
            case 42:
                due("totalCost()", x.totalCost(), y.totalCost());
                a = panel();
                due("panelCost(" + a + ")", x.panelCost(a), y.panelCost(a));
                break;
            case 43:
                a = hung();
                if (odds(15)) {
                    due("bestDepth(" + a + ")", x.bestDepth(a), y.bestDepth(a));
                }
                break;
            case 44:
                a = hung();
                due("bestAngle(" + a + ")", x.bestAngle(a), y.bestAngle(a));
                break;
            default:
                a = range(0, 6);
                due("count(" + a + ")", x.count(a), y.count(a));
        }
    }
}
