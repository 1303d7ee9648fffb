import java.util.ArrayDeque;
import java.util.ArrayList;
import java.util.Arrays;
import java.util.Comparator;
import java.util.Deque;
import java.util.HashSet;
import java.util.List;
import java.util.Set;

/**
 * The document once more, written as slowly and plainly as possible: unit by unit and point by point.
 * RandomTest compares the program with it.
 */
final class Reference {
    static final int BAD = -1, STATE = -2, FULL = -3, CLASH = -4, NONE = -9;

    static final class Sheet {
        int parent, side, offset, length, depth, angle;
        int target = NONE, image = NONE, orientation, px, py;

        Sheet copy() {
            Sheet c = new Sheet();
            c.parent = parent;
            c.side = side;
            c.offset = offset;
            c.length = length;
            c.depth = depth;
            c.angle = angle;
            c.target = target;
            c.image = image;
            c.orientation = orientation;
            c.px = px;
            c.py = py;
            return c;
        }
    }

    static final class World {
        int sheetW = 200, sheetH = 200;
        int[] base = new int[4];
        List<Sheet> panels = new ArrayList<>();
        int[][] images = new int[4][];
        int[] limits = {1, 3, 2, 80};
        int[] weights = {1, 1, 1, 1, 1, 1, 1, 1};

        World copy() {
            World c = new World();
            c.sheetW = sheetW;
            c.sheetH = sheetH;
            c.base = base.clone();
            for (Sheet s : panels) {
                c.panels.add(s.copy());
            }
            for (int i = 0; i < 4; i++) {
                c.images[i] = images[i] == null ? null : images[i].clone();
            }
            c.limits = limits.clone();
            c.weights = weights.clone();
            return c;
        }

        int n() {
            return panels.size();
        }

        /** x, y, width, height */
        int[] rect(int i) {
            if (i == 0) {
                return base;
            }
            Sheet s = panels.get(i);
            int[] r = rect(s.parent);
            if (s.side == 0) {
                return new int[] {r[0] + s.offset, r[1] - s.depth, s.length, s.depth};
            }
            if (s.side == 1) {
                return new int[] {r[0] + r[2], r[1] + s.offset, s.depth, s.length};
            }
            if (s.side == 2) {
                return new int[] {r[0] + s.offset, r[1] + r[3], s.length, s.depth};
            }
            return new int[] {r[0] - s.depth, r[1] + s.offset, s.depth, s.length};
        }

        boolean valid() {
            for (int i = 0; i < n(); i++) {
                int[] r = rect(i);
                if (r[0] < 0 || r[1] < 0 || r[0] + r[2] > sheetW || r[1] + r[3] > sheetH) {
                    return false;
                }
                if (i > 0) {
                    Sheet s = panels.get(i);
                    int[] pr = rect(s.parent);
                    int sideLength = s.side == 0 || s.side == 2 ? pr[2] : pr[3];
                    if (s.offset + s.length > sideLength) {
                        return false;
                    }
                }
                for (int j = 0; j < i; j++) {
                    int[] q = rect(j);
                    boolean apart = r[0] >= q[0] + q[2] || q[0] >= r[0] + r[2]
                        || r[1] >= q[1] + q[3] || q[1] >= r[1] + r[3];
                    if (!apart) {
                        return false;
                    }
                }
            }
            return true;
        }

        /** Four vectors: the place of the lower left corner, U, V, N. */
        int[][] frame(int i, int made) {
            int[] r = rect(i);
            if (i == 0) {
                return new int[][] {{r[0], r[1], 0}, {1, 0, 0}, {0, 1, 0}, {0, 0, 1}};
            }
            Sheet s = panels.get(i);
            int[][] f = frame(s.parent, made);
            int[] pr = rect(s.parent);
            int angle = (made >> i & 1) == 1 ? s.angle : 0;
            int[] d = s.side == 0 ? times(f[2], -1) : s.side == 1 ? f[1] : s.side == 2 ? f[2] : times(f[1], -1);
            int[] into;
            int[] normal;
            if (angle == 0) {
                into = d;
                normal = f[3];
            } else if (angle == 1) {
                into = times(f[3], -1);
                normal = d;
            } else if (angle == 2) {
                into = times(d, -1);
                normal = times(f[3], -1);
            } else {
                into = f[3];
                normal = times(d, -1);
            }
            // one end of the fold, in the parent's coordinates
            int fx = s.side == 1 ? pr[2] : s.side == 3 ? 0 : s.offset;
            int fy = s.side == 2 ? pr[3] : s.side == 0 ? 0 : s.offset;
            int[] fold = plus(f[0], plus(times(f[1], fx), times(f[2], fy)));
            if (s.side == 0) {
                return new int[][] {plus(fold, times(into, s.depth)), f[1], times(into, -1), normal};
            }
            if (s.side == 1) {
                return new int[][] {fold, into, f[2], normal};
            }
            if (s.side == 2) {
                return new int[][] {fold, f[1], into, normal};
            }
            return new int[][] {plus(fold, times(into, s.depth)), times(into, -1), f[2], normal};
        }

        int[] space(int i, int x, int y, int made) {
            int[][] f = frame(i, made);
            return plus(f[0], plus(times(f[1], x), times(f[2], y)));
        }

        int[][] box(int i, int made) {
            int[] r = rect(i);
            int[] a = space(i, 0, 0, made);
            int[] b = space(i, r[2], r[3], made);
            int[][] box = new int[2][3];
            for (int k = 0; k < 3; k++) {
                box[0][k] = Math.min(a[k], b[k]);
                box[1][k] = Math.max(a[k], b[k]);
            }
            return box;
        }

        int normalAxis(int i, int made) {
            int[] nn = frame(i, made)[3];
            return nn[0] != 0 ? 0 : nn[1] != 0 ? 1 : 2;
        }

        int cross(int p, int q, int made, int tol) {
            int a = normalAxis(p, made);
            int b = normalAxis(q, made);
            if (a == b) {
                return 0;
            }
            int[][] x = box(p, made);
            int[][] y = box(q, made);
            int planeP = x[0][a];
            int planeQ = y[0][b];
            if (!(planeP > y[0][a] + tol && planeP < y[1][a] - tol)) {
                return 0;
            }
            if (!(planeQ > x[0][b] + tol && planeQ < x[1][b] - tol)) {
                return 0;
            }
            return units(x, y, 3 - a - b);
        }

        int units(int[][] x, int[][] y, int axis) {
            int common = 0;
            for (int k = x[0][axis]; k < x[1][axis]; k++) {
                if (k >= y[0][axis] && k + 1 <= y[1][axis]) {
                    common++;
                }
            }
            return common;
        }

        int doubled(int p, int q, int tol) {
            int a = normalAxis(p, -1);
            if (a != normalAxis(q, -1)) {
                return 0;
            }
            int[][] x = box(p, -1);
            int[][] y = box(q, -1);
            if (Math.abs(x[0][a] - y[0][a]) > tol) {
                return 0;
            }
            int area = 1;
            for (int k = 0; k < 3; k++) {
                if (k != a) {
                    area *= units(x, y, k);
                }
            }
            return area;
        }

        int sideLength(int i, int side) {
            return side == 0 || side == 2 ? rect(i)[2] : rect(i)[3];
        }

        /** The panel's coordinates of a place on a side. */
        int[] onSide(int i, int side, int place) {
            int[] r = rect(i);
            return side == 0 ? new int[] {place, 0} : side == 1 ? new int[] {r[2], place}
                : side == 2 ? new int[] {place, r[3]} : new int[] {0, place};
        }

        int[][] sideBox(int i, int side) {
            int[] from = onSide(i, side, 0);
            int[] to = onSide(i, side, sideLength(i, side));
            int[] a = space(i, from[0], from[1], -1);
            int[] b = space(i, to[0], to[1], -1);
            int[][] box = new int[2][3];
            for (int k = 0; k < 3; k++) {
                box[0][k] = Math.min(a[k], b[k]);
                box[1][k] = Math.max(a[k], b[k]);
            }
            return box;
        }

        static int longAxis(int[][] box) {
            for (int k = 0; k < 3; k++) {
                if (box[0][k] != box[1][k]) {
                    return k;
                }
            }
            return -1;
        }

        /** p, side, q, side, low, high, axis, gap, fold */
        List<int[]> seams(int tol) {
            List<int[]> all = new ArrayList<>();
            for (int p = 0; p < n(); p++) {
                for (int s = 0; s < 4; s++) {
                    int[][] x = sideBox(p, s);
                    for (int q = p + 1; q < n(); q++) {
                        for (int t = 0; t < 4; t++) {
                            int[] seam = meet(p, s, x, q, t, sideBox(q, t), tol);
                            if (seam != null) {
                                all.add(seam);
                            }
                        }
                    }
                }
            }
            return all;
        }

        int[] meet(int p, int s, int[][] x, int q, int t, int[][] y, int tol) {
            Sheet child = panels.get(q);
            int axis = longAxis(x);
            if (child.parent == p && child.side == s && t == (s + 2) % 4) {
                int[] a = onSide(p, s, child.offset);
                int[] b = onSide(p, s, child.offset + child.length);
                int c = space(p, a[0], a[1], -1)[axis];
                int d = space(p, b[0], b[1], -1)[axis];
                return new int[] {p, s, q, t, Math.min(c, d), Math.max(c, d), axis, 0, 1};
            }
            if (longAxis(y) != axis) {
                return null;
            }
            int gap = 0;
            for (int k = 0; k < 3; k++) {
                if (k != axis) {
                    gap = Math.max(gap, Math.abs(x[0][k] - y[0][k]));
                }
            }
            int low = Math.max(x[0][axis], y[0][axis]);
            int high = Math.min(x[1][axis], y[1][axis]);
            if (gap > tol || high - low < 1) {
                return null;
            }
            return new int[] {p, s, q, t, low, high, axis, gap, 0};
        }

        int open(int i, int side, int tol, List<int[]> seams) {
            int[][] box = sideBox(i, side);
            int axis = longAxis(box);
            int open = 0;
            for (int k = box[0][axis]; k < box[1][axis]; k++) {
                boolean covered = false;
                for (int[] seam : seams) {
                    boolean own = seam[0] == i && seam[1] == side || seam[2] == i && seam[3] == side;
                    if (own && seam[4] - tol <= k && k + 1 <= seam[5] + tol) {
                        covered = true;
                    }
                }
                open += covered ? 0 : 1;
            }
            return open;
        }

        int covered(int i, int tol) {
            int[] r = rect(i);
            int target = panels.get(i).target;
            boolean same = Arrays.equals(frame(i, -1)[3], frame(target, -1)[3]);
            int area = same ? doubled(i, target, tol) : 0;
            return 100 * area / (r[2] * r[3]);
        }

        // ---- images

        /** Where a point of an image lies on a panel, with the position left out. */
        int[] turned(int image, int orientation, int u, int v) {
            int w = images[image][0];
            int h = images[image][1];
            if (orientation >= 4) {
                u = w - u;
            }
            switch (orientation % 4) {
                case 0:
                    return new int[] {u, v};
                case 1:
                    return new int[] {h - v, u};
                case 2:
                    return new int[] {w - u, h - v};
                default:
                    return new int[] {v, w - u};
            }
        }

        /** Solves for (u, v) from where (0, 0), (1, 0) and (0, 1) lie. */
        int[] image(int image, int orientation, int px, int py, int x, int y) {
            int[] o = turned(image, orientation, 0, 0);
            int[] e = turned(image, orientation, 1, 0);
            int[] f = turned(image, orientation, 0, 1);
            int dx = x - px - o[0];
            int dy = y - py - o[1];
            int u = dx * (e[0] - o[0]) + dy * (e[1] - o[1]);
            int v = dx * (f[0] - o[0]) + dy * (f[1] - o[1]);
            return new int[] {u, v};
        }

        int[] imageAt(int i, int x, int y) {
            Sheet s = panels.get(i);
            return image(s.image, s.orientation, s.px, s.py, x, y);
        }

        /** left, right, low, high of the turned image on its panel */
        int[] ink(int i) {
            Sheet s = panels.get(i);
            int[] wh = images[s.image];
            int tw = s.orientation % 2 == 0 ? wh[0] : wh[1];
            int th = s.orientation % 2 == 0 ? wh[1] : wh[0];
            return new int[] {s.px, s.px + tw, s.py, s.py + th};
        }

        boolean shows(int i) {
            if (panels.get(i).image == NONE) {
                return false;
            }
            int[] k = ink(i);
            int[] r = rect(i);
            return Math.max(k[0], 0) < Math.min(k[1], r[2]) && Math.max(k[2], 0) < Math.min(k[3], r[3]);
        }

        int reach(int i, int side) {
            if (!shows(i)) {
                return NONE;
            }
            int[] k = ink(i);
            int[] r = rect(i);
            int reach = side == 0 ? 0 - k[2] : side == 1 ? k[1] - r[2] : side == 2 ? k[3] - r[3] : 0 - k[0];
            return reach < 0 ? NONE : reach;
        }

        /** The panel's coordinates of the point of a side that has a coordinate on an axis. */
        int[] pointAt(int i, int side, int axis, int coordinate) {
            for (int place = 0; place <= sideLength(i, side); place++) {
                int[] p = onSide(i, side, place);
                if (space(i, p[0], p[1], -1)[axis] == coordinate) {
                    return p;
                }
            }
            throw new IllegalStateException("no such point");
        }

        static int[] out(int side) {
            return side == 0 ? new int[] {0, -1} : side == 1 ? new int[] {1, 0}
                : side == 2 ? new int[] {0, 1} : new int[] {-1, 0};
        }

        int mismatch(int[] m) {
            int p = m[0];
            int q = m[2];
            if (!shows(p) || !shows(q) || panels.get(p).image != panels.get(q).image) {
                return NONE;
            }
            if (reach(p, m[1]) == NONE || reach(q, m[3]) == NONE) {
                return NONE;
            }
            int greatest = 0;
            for (int end = 4; end <= 5; end++) {
                int[] a = pointAt(p, m[1], m[6], m[end]);
                int[] b = pointAt(q, m[3], m[6], m[end]);
                int[] ia = imageAt(p, a[0], a[1]);
                int[] ib = imageAt(q, b[0], b[1]);
                greatest = Math.max(greatest, Math.max(Math.abs(ia[0] - ib[0]), Math.abs(ia[1] - ib[1])));
            }
            int[] a = pointAt(p, m[1], m[6], m[4]);
            int[] b = pointAt(q, m[3], m[6], m[4]);
            int[] o = out(m[1]);
            int[] in = times2(out(m[3]), -1);
            int[] ca = minus2(imageAt(p, a[0] + o[0], a[1] + o[1]), imageAt(p, a[0], a[1]));
            int[] cb = minus2(imageAt(q, b[0] + in[0], b[1] + in[1]), imageAt(q, b[0], b[1]));
            return Arrays.equals(ca, cb) ? greatest : Math.max(100, greatest);
        }

        /** Tries all orientations; returns orientation, px, py, or null if the image cannot be continued. */
        int[] continued(int[] m, boolean back) {
            int from = back ? m[2] : m[0];
            int fromSide = back ? m[3] : m[1];
            int to = back ? m[0] : m[2];
            int toSide = back ? m[1] : m[3];
            if (reach(from, fromSide) == NONE) {
                return null;
            }
            int image = panels.get(from).image;
            int[] found = null;
            for (int o = 0; o < 8; o++) {
                int[] a = pointAt(from, fromSide, m[6], m[4]);
                int[] b = pointAt(to, toSide, m[6], m[4]);
                int[] uv = imageAt(from, a[0], a[1]);
                int[] t = turned(image, o, uv[0], uv[1]);
                int px = b[0] - t[0];
                int py = b[1] - t[1];
                if (suits(m, from, fromSide, to, toSide, new int[] {image, o, px, py})) {
                    if (found != null) {
                        throw new IllegalStateException("more than one orientation");
                    }
                    found = new int[] {o, px, py};
                }
            }
            if (found == null) {
                throw new IllegalStateException("no orientation");
            }
            return Math.abs(found[1]) > 300 || Math.abs(found[2]) > 300 ? null : found;
        }

        boolean suits(int[] m, int from, int fromSide, int to, int toSide, int[] how) {
            for (int c = m[4]; c <= m[5]; c++) {
                int[] a = pointAt(from, fromSide, m[6], c);
                int[] b = pointAt(to, toSide, m[6], c);
                int[] o = out(fromSide);
                int[] in = times2(out(toSide), -1);
                int[] ia = imageAt(from, a[0], a[1]);
                int[] ib = image(how[0], how[1], how[2], how[3], b[0], b[1]);
                int[] ca = minus2(imageAt(from, a[0] + o[0], a[1] + o[1]), ia);
                int[] cb = minus2(image(how[0], how[1], how[2], how[3], b[0] + in[0], b[1] + in[1]), ib);
                if (!Arrays.equals(ia, ib) || !Arrays.equals(ca, cb)) {
                    return false;
                }
            }
            return true;
        }

        // ---- findings: kind, panel, side, other, amount, cost

        List<int[]> findings() {
            List<int[]> all = new ArrayList<>();
            int tol = limits[0];
            List<int[]> seams = seams(tol);
            for (int i = 0; i < n(); i++) {
                boolean flap = panels.get(i).target != NONE;
                for (int s = 0; s < 4 && !flap; s++) {
                    note(all, 0, i, s, NONE, open(i, s, tol, seams));
                }
                for (int j = i + 1; j < n(); j++) {
                    note(all, 1, i, NONE, j, cross(i, j, -1, tol));
                    if (panels.get(i).target != j && panels.get(j).target != i) {
                        note(all, 2, i, NONE, j, doubled(i, j, tol));
                    }
                }
                if (flap) {
                    note(all, 3, i, NONE, panels.get(i).target, limits[3] - covered(i, tol));
                    if (shows(i)) {
                        note(all, 6, i, NONE, NONE, inkDistance(i) - limits[2]);
                    }
                }
                for (int s = 0; s < 4; s++) {
                    int reach = reach(i, s);
                    if (reach != NONE && !flap && !folds(i, s)) {
                        note(all, 4, i, s, NONE, limits[1] - reach);
                    }
                    if (reach > 0) {
                        intrusions(all, i, s, Math.min(reach, limits[1]));
                    }
                }
            }
            for (int[] m : seams) {
                int mismatch = mismatch(m);
                if (mismatch != NONE && mismatch > tol) {
                    note(all, 7, m[0], m[1], m[2], mismatch);
                }
            }
            all.sort(Comparator.<int[]>comparingInt(f -> -f[5]).thenComparingInt(f -> f[0])
                .thenComparingInt(f -> f[1]).thenComparingInt(f -> f[2]).thenComparingInt(f -> f[3]));
            return all;
        }

        void note(List<int[]> all, int kind, int panel, int side, int other, int amount) {
            if (amount > 0 && weights[kind] > 0) {
                all.add(new int[] {kind, panel, side, other, amount, amount * weights[kind]});
            }
        }

        int inkDistance(int i) {
            int[] r = rect(i);
            int[] k = ink(i);
            int near = (panels.get(i).side + 2) % 4;
            int greatest = 0;
            for (int x = 0; x <= r[2]; x++) {
                for (int y = 0; y <= r[3]; y++) {
                    if (x >= k[0] && x <= k[1] && y >= k[2] && y <= k[3]) {
                        int d = near == 0 ? y : near == 1 ? r[2] - x : near == 2 ? r[3] - y : x;
                        greatest = Math.max(greatest, d);
                    }
                }
            }
            return greatest;
        }

        boolean folds(int i, int side) {
            boolean[] folded = new boolean[sideLength(i, side)];
            if (i > 0 && side == (panels.get(i).side + 2) % 4) {
                Arrays.fill(folded, true);
            }
            for (int j = 1; j < n(); j++) {
                Sheet s = panels.get(j);
                if (s.parent == i && s.side == side) {
                    Arrays.fill(folded, s.offset, s.offset + s.length, true);
                }
            }
            for (boolean f : folded) {
                if (!f) {
                    return false;
                }
            }
            return true;
        }

        /** Counts the unit rows of the strip that another panel has a cell of. */
        void intrusions(List<int[]> all, int i, int side, int width) {
            int[] r = rect(i);
            int[] k = ink(i);
            int left = Math.max(0, k[0]), right = Math.min(r[2], k[1]);
            int low = Math.max(0, k[2]), high = Math.min(r[3], k[3]);
            int beyond = 0;
            int[] rows = new int[n()];
            for (int row = 0; row < width; row++) {
                boolean outside = false;
                boolean[] hit = new boolean[n()];
                boolean acrossX = side % 2 == 0;
                for (int c = acrossX ? left : low; c < (acrossX ? right : high); c++) {
                    int x = side == 1 ? r[0] + r[2] + row : side == 3 ? r[0] - 1 - row : r[0] + c;
                    int y = side == 0 ? r[1] - 1 - row : side == 2 ? r[1] + r[3] + row : r[1] + c;
                    outside |= x < 0 || y < 0 || x >= sheetW || y >= sheetH;
                    for (int j = 0; j < n(); j++) {
                        int[] q = rect(j);
                        hit[j] |= x >= q[0] && x < q[0] + q[2] && y >= q[1] && y < q[1] + q[3];
                    }
                }
                beyond += outside ? 1 : 0;
                for (int j = 0; j < n(); j++) {
                    rows[j] += hit[j] ? 1 : 0;
                }
            }
            note(all, 5, i, side, NONE, beyond);
            for (int j = 0; j < n(); j++) {
                boolean hung = j > 0 && panels.get(j).parent == i && panels.get(j).side == side;
                boolean above = i > 0 && panels.get(i).parent == j && side == (panels.get(i).side + 2) % 4;
                if (j != i && !hung && !above) {
                    note(all, 5, i, side, j, rows[j]);
                }
            }
        }

        long cost() {
            long sum = 0;
            for (int[] f : findings()) {
                sum += f[5];
            }
            return sum;
        }

        int crossPairs(int made) {
            int pairs = 0;
            for (int p = 0; p < n(); p++) {
                for (int q = p + 1; q < n(); q++) {
                    pairs += cross(p, q, made, limits[0]) > 0 ? 1 : 0;
                }
            }
            return pairs;
        }

        boolean order(int made, List<Integer> left, List<Integer> order) {
            if (left.isEmpty()) {
                return true;
            }
            for (Integer p : left) {
                int then = made | 1 << p;
                if (crossPairs(then) == 0) {
                    List<Integer> rest = new ArrayList<>(left);
                    rest.remove(p);
                    order.add(p);
                    if (order(then, rest, order)) {
                        return true;
                    }
                    order.remove(order.size() - 1);
                }
            }
            return false;
        }
    }

    static int[] times(int[] v, int k) {
        return new int[] {v[0] * k, v[1] * k, v[2] * k};
    }

    static int[] plus(int[] a, int[] b) {
        return new int[] {a[0] + b[0], a[1] + b[1], a[2] + b[2]};
    }

    static int[] times2(int[] v, int k) {
        return new int[] {v[0] * k, v[1] * k};
    }

    static int[] minus2(int[] a, int[] b) {
        return new int[] {a[0] - b[0], a[1] - b[1]};
    }

    World now = new World();
    final World[] slots = new World[2];
    final Deque<World> past = new ArrayDeque<>();
    final StringBuilder text = new StringBuilder();
    int fault = 0;

    static boolean in(int value, int low, int high) {
        return value >= low && value <= high;
    }

    boolean has(int panel) {
        return in(panel, 0, now.n() - 1);
    }

    boolean hung(int panel) {
        return in(panel, 1, now.n() - 1);
    }

    int act(World next, int answer) {
        past.addLast(now);
        if (past.size() > 12) {
            past.removeFirst();
        }
        now = next;
        return answer;
    }

    int type(int letter) {
        if (!in(letter, 0, 127)) {
            return BAD;
        }
        if (text.length() == 160) {
            return FULL;
        }
        text.append((char) letter);
        return text.length();
    }

    int clearText() {
        int had = text.length();
        text.setLength(0);
        return had;
    }

    int load() {
        Reference draft = new Reference();
        int items = 0;
        int at = 0;
        char item = 0;
        List<Integer> numbers = new ArrayList<>();
        while (at < text.length()) {
            String rest = text.substring(at);
            if (rest.charAt(0) == ' ') {
                at++;
                continue;
            }
            String token = rest.charAt(0) + "";
            if (rest.matches("(?s)-?[0-9].*")) {
                token = rest.replaceAll("(?s)^(-?[0-9]+).*", "$1");
                if (token.replace("-", "").length() > 3) {
                    return fault(1, at);
                }
            } else if (!"sbpfia;".contains(token)) {
                return fault(1, at);
            }
            boolean number = token.matches("-?[0-9]+");
            int wanted = item == 0 ? -1 : Integer.parseInt("" + "246235".charAt("sbpfia".indexOf(item)));
            if (number) {
                if (numbers.size() >= wanted) {
                    return fault(2, at);
                }
                numbers.add(Integer.parseInt(token));
            } else if (token.equals(";")) {
                if (item == 0 || numbers.size() != wanted) {
                    return fault(2, at);
                }
                if (!draft.perform(item, numbers)) {
                    return fault(3, at);
                }
                items++;
                item = 0;
                numbers.clear();
            } else {
                if (item != 0) {
                    return fault(2, at);
                }
                item = token.charAt(0);
            }
            at += token.length();
        }
        if (item != 0) {
            return fault(2, text.length());
        }
        fault = 0;
        draft.now.limits = now.limits;
        draft.now.weights = now.weights;
        now = draft.now;
        past.clear();
        return items;
    }

    private int fault(int kind, int at) {
        fault = kind;
        return -10 - at;
    }

    private boolean perform(char item, List<Integer> k) {
        int answer;
        switch (item) {
            case 's':
                answer = setSheet(k.get(0), k.get(1));
                break;
            case 'b':
                answer = setBase(k.get(0), k.get(1), k.get(2), k.get(3));
                break;
            case 'p':
                if (!in(k.get(5), 0, 3)) {
                    return false;
                }
                answer = addPanel(k.get(0), k.get(1), k.get(2), k.get(3), k.get(4), k.get(5) == 3 ? -1 : k.get(5));
                break;
            case 'f':
                if (!has(k.get(1))) {
                    return false;
                }
                answer = setFlap(k.get(0), k.get(1));
                break;
            case 'i':
                answer = defineImage(k.get(0), k.get(1), k.get(2));
                break;
            default:
                answer = place(k.get(0), k.get(1), k.get(2), k.get(3), k.get(4));
        }
        return !in(answer, -4, -1);
    }

    int setSheet(int w, int h) {
        if (!in(w, 20, 300) || !in(h, 20, 300)) {
            return BAD;
        }
        World next = now.copy();
        next.sheetW = w;
        next.sheetH = h;
        return next.valid() ? act(next, now.sheetW) : CLASH;
    }

    int setBase(int x, int y, int w, int h) {
        if (!in(x, 0, 300) || !in(y, 0, 300) || !in(w, 1, 300) || !in(h, 1, 300)) {
            return BAD;
        }
        World next = now.copy();
        next.panels.clear();
        next.panels.add(new Sheet());
        next.base = new int[] {x, y, w, h};
        return next.valid() ? act(next, now.n()) : CLASH;
    }

    int addPanel(int parent, int side, int offset, int length, int depth, int angle) {
        if (!has(parent) || !in(side, 0, 3) || !in(offset, 0, 300) || !in(length, 1, 300)
            || !in(depth, 1, 300) || !in(angle, -1, 2)) {
            return BAD;
        }
        if (now.n() == 10) {
            return FULL;
        }
        World next = now.copy();
        Sheet s = new Sheet();
        s.parent = parent;
        s.side = side;
        s.offset = offset;
        s.length = length;
        s.depth = depth;
        s.angle = angle;
        next.panels.add(s);
        return next.valid() ? act(next, now.n()) : CLASH;
    }

    int removeLast() {
        if (now.n() == 0) {
            return STATE;
        }
        for (Sheet s : now.panels) {
            if (s.target == now.n() - 1) {
                return STATE;
            }
        }
        World next = now.copy();
        next.panels.remove(next.n() - 1);
        return act(next, next.n());
    }

    int setAngle(int panel, int angle) {
        if (!hung(panel) || !in(angle, -1, 2)) {
            return BAD;
        }
        World next = now.copy();
        next.panels.get(panel).angle = angle;
        return act(next, now.panels.get(panel).angle);
    }

    int setSize(int panel, int what, int value) {
        if (!hung(panel) || !in(what, 0, 2) || !in(value, what == 0 ? 0 : 1, 300)) {
            return BAD;
        }
        World next = now.copy();
        Sheet s = next.panels.get(panel);
        int previous;
        if (what == 0) {
            previous = s.offset;
            s.offset = value;
        } else if (what == 1) {
            previous = s.length;
            s.length = value;
        } else {
            previous = s.depth;
            s.depth = value;
        }
        return next.valid() ? act(next, previous) : CLASH;
    }

    int setFlap(int panel, int target) {
        if (!hung(panel) || target != NONE && (!has(target) || target == panel)) {
            return BAD;
        }
        World next = now.copy();
        next.panels.get(panel).target = target;
        return act(next, now.panels.get(panel).target);
    }

    int defineImage(int image, int w, int h) {
        if (!in(image, 0, 3) || !in(w, 1, 200) || !in(h, 1, 200)) {
            return BAD;
        }
        World next = now.copy();
        next.images[image] = new int[] {w, h};
        return act(next, now.images[image] == null ? 0 : 1);
    }

    int place(int panel, int image, int orientation, int px, int py) {
        if (!has(panel) || !in(image, 0, 3) || !in(orientation, 0, 7) || !in(px, -300, 300) || !in(py, -300, 300)) {
            return BAD;
        }
        if (now.images[image] == null) {
            return STATE;
        }
        World next = now.copy();
        put(next, panel, image, new int[] {orientation, px, py});
        return act(next, now.panels.get(panel).image);
    }

    private static void put(World world, int panel, int image, int[] how) {
        Sheet s = world.panels.get(panel);
        s.image = image;
        s.orientation = how[0];
        s.px = how[1];
        s.py = how[2];
    }

    int clearImage(int panel) {
        if (!has(panel)) {
            return BAD;
        }
        if (now.panels.get(panel).image == NONE) {
            return STATE;
        }
        World next = now.copy();
        next.panels.get(panel).image = NONE;
        return act(next, now.panels.get(panel).image);
    }

    int continueImage(int seam, boolean back) {
        List<int[]> seams = now.seams(now.limits[0]);
        if (!in(seam, 0, seams.size() - 1)) {
            return BAD;
        }
        int[] m = seams.get(seam);
        int[] how = now.continued(m, back);
        if (how == null) {
            return STATE;
        }
        World next = now.copy();
        put(next, back ? m[0] : m[2], now.panels.get(back ? m[2] : m[0]).image, how);
        return act(next, how[0]);
    }

    int spreadImage(int panel) {
        if (!has(panel)) {
            return BAD;
        }
        int image = now.panels.get(panel).image;
        if (image == NONE) {
            return STATE;
        }
        World next = now.copy();
        List<int[]> seams = now.seams(now.limits[0]);
        int placed = 0;
        boolean again = true;
        while (again) {
            again = false;
            for (int k = 0; k < 2 * seams.size() && !again; k++) {
                int[] m = seams.get(k / 2);
                boolean back = k % 2 == 1;
                Sheet from = next.panels.get(back ? m[2] : m[0]);
                Sheet to = next.panels.get(back ? m[0] : m[2]);
                if (from.image != image || to.image != NONE || to.target != NONE) {
                    continue;
                }
                int[] how = next.continued(m, back);
                if (how != null) {
                    put(next, back ? m[0] : m[2], image, how);
                    placed++;
                    again = true;
                }
            }
        }
        return act(next, placed);
    }

    int setLimit(int which, int value) {
        if (!in(which, 0, 3) || !in(value, 0, which == 3 ? 100 : 20)) {
            return BAD;
        }
        World next = now.copy();
        next.limits[which] = value;
        return act(next, now.limits[which]);
    }

    int setWeight(int kind, int weight) {
        if (!in(kind, 0, 7) || !in(weight, 0, 9)) {
            return BAD;
        }
        World next = now.copy();
        next.weights[kind] = weight;
        return act(next, now.weights[kind]);
    }

    int undo() {
        if (past.isEmpty()) {
            return STATE;
        }
        now = past.removeLast();
        return past.size();
    }

    int save(int slot) {
        if (!in(slot, 0, 1)) {
            return BAD;
        }
        slots[slot] = now.copy();
        return now.n();
    }

    int restore(int slot) {
        if (!in(slot, 0, 1)) {
            return BAD;
        }
        if (slots[slot] == null) {
            return STATE;
        }
        World next = slots[slot].copy();
        next.limits = now.limits.clone();
        next.weights = now.weights.clone();
        return act(next, next.n());
    }

    int flat(int panel, int what) {
        return has(panel) && in(what, 0, 3) ? now.rect(panel)[what] : BAD;
    }

    int cutLength() {
        Set<String> lines = new HashSet<>();
        for (int i = 0; i < now.n(); i++) {
            for (int side = 0; side < 4; side++) {
                addUnits(lines, i, side, 0, now.sideLength(i, side));
            }
        }
        Set<String> folds = new HashSet<>();
        for (int i = 1; i < now.n(); i++) {
            Sheet s = now.panels.get(i);
            addUnits(folds, s.parent, s.side, s.offset, s.offset + s.length);
        }
        lines.removeAll(folds);
        return lines.size();
    }

    private void addUnits(Set<String> lines, int panel, int side, int from, int to) {
        int[] r = now.rect(panel);
        for (int k = from; k < to; k++) {
            int[] p = now.onSide(panel, side, k);
            lines.add((side % 2 == 0 ? "h " : "v ") + (r[0] + p[0]) + " " + (r[1] + p[1]));
        }
    }

    int creaseLength() {
        int sum = 0;
        for (int i = 1; i < now.n(); i++) {
            sum += now.panels.get(i).angle == 0 ? 0 : now.panels.get(i).length;
        }
        return sum;
    }

    int pitch(int axis, int gap, boolean turned) {
        if (!in(axis, 0, 1) || !in(gap, 0, 50)) {
            return BAD;
        }
        if (now.n() == 0) {
            return STATE;
        }
        for (int d = 1;; d++) {
            boolean near = tooNear(axis, gap, d, turned);
            for (int k = 2; k * d < 400 && !near && !turned; k++) {
                near = tooNear(axis, gap, k * d, false);
            }
            if (!near) {
                return d;
            }
        }
    }

    private int[] bounds() {
        int[] b = {999, 999, -999, -999};
        for (int i = 0; i < now.n(); i++) {
            int[] r = now.rect(i);
            b[0] = Math.min(b[0], r[0]);
            b[1] = Math.min(b[1], r[1]);
            b[2] = Math.max(b[2], r[0] + r[2]);
            b[3] = Math.max(b[3], r[1] + r[3]);
        }
        return b;
    }

    private boolean tooNear(int axis, int gap, int shift, boolean turned) {
        int[] b = bounds();
        for (int i = 0; i < now.n(); i++) {
            for (int j = 0; j < now.n(); j++) {
                int[] r = now.rect(i);
                int[] q = now.rect(j).clone();
                if (turned) {
                    q[0] = b[0] + b[2] - (q[0] + q[2]);
                    q[1] = b[1] + b[3] - (q[1] + q[3]);
                }
                q[axis] += shift;
                if (distance(r[0], r[2], q[0], q[2]) < gap && distance(r[1], r[3], q[1], q[3]) < gap) {
                    return true;
                }
            }
        }
        return false;
    }

    private static int distance(int a, int aLength, int b, int bLength) {
        return a >= b ? a - (b + bLength) : b - (a + aLength);
    }

    int rowCount(int axis, int gap) {
        int pitch = pitch(axis, gap, false);
        if (pitch < 0) {
            return pitch;
        }
        int[] b = bounds();
        int room = axis == 0 ? now.sheetW - (b[2] - b[0]) : now.sheetH - (b[3] - b[1]);
        int copies = 1;
        while (room >= pitch) {
            room -= pitch;
            copies++;
        }
        return copies;
    }

    int corner(int panel, int corner, int axis) {
        if (!has(panel) || !in(corner, 0, 3) || !in(axis, 0, 2)) {
            return BAD;
        }
        int[] r = now.rect(panel);
        int x = corner == 1 || corner == 2 ? r[2] : 0;
        int y = corner >= 2 ? r[3] : 0;
        return now.space(panel, x, y, -1)[axis];
    }

    int facing(int panel) {
        if (!has(panel)) {
            return BAD;
        }
        int[] n = now.frame(panel, -1)[3];
        for (int k = 0; k < 3; k++) {
            if (n[k] != 0) {
                return 2 * k + (n[k] < 0 ? 1 : 0);
            }
        }
        throw new IllegalStateException();
    }

    int openLength(int panel, int side) {
        if (!has(panel) || !in(side, 0, 3)) {
            return BAD;
        }
        return now.open(panel, side, now.limits[0], now.seams(now.limits[0]));
    }

    int seamCount() {
        return now.seams(now.limits[0]).size();
    }

    int seam(int seam, int what) {
        List<int[]> seams = now.seams(now.limits[0]);
        if (!in(seam, 0, seams.size() - 1) || !in(what, 0, 7)) {
            return BAD;
        }
        int[] m = seams.get(seam);
        int[] values = {m[0], m[1], m[2], m[3], m[5] - m[4], m[7], m[8], now.mismatch(m)};
        return values[what];
    }

    int coverage(int panel) {
        if (!has(panel)) {
            return BAD;
        }
        return now.panels.get(panel).target == NONE ? NONE : now.covered(panel, now.limits[0]);
    }

    private static boolean anyOpen(World w, int tol) {
        List<int[]> seams = w.seams(tol);
        for (int i = 0; i < w.n(); i++) {
            for (int s = 0; s < 4; s++) {
                if (w.panels.get(i).target == NONE && w.open(i, s, tol, seams) > 0) {
                    return true;
                }
            }
        }
        return false;
    }

    long volume() {
        if (now.n() == 0 || anyOpen(now, now.limits[0])) {
            return STATE;
        }
        long sum = 0;
        for (int i = 0; i < now.n(); i++) {
            if (now.panels.get(i).target == NONE) {
                int[] r = now.rect(i);
                int[][] f = now.frame(i, -1);
                long dot = (long) f[0][0] * f[3][0] + (long) f[0][1] * f[3][1] + (long) f[0][2] * f[3][2];
                sum += dot * r[2] * r[3];
            }
        }
        return Math.abs(sum) / 3;
    }

    int leastTolerance() {
        for (int tol = 0; tol <= 20; tol++) {
            boolean wrong = anyOpen(now, tol);
            for (int i = 0; i < now.n(); i++) {
                wrong |= now.panels.get(i).target != NONE && now.covered(i, tol) < now.limits[3];
            }
            if (!wrong) {
                return tol;
            }
        }
        return NONE;
    }

    int crossings(int folds) {
        if (folds < 0) {
            return BAD;
        }
        for (int bit = 0; bit < 31; bit++) {
            if ((folds >> bit & 1) == 1 && !hung(bit)) {
                return BAD;
            }
        }
        return now.crossPairs(folds);
    }

    int foldStep(int k) {
        if (k < 0) {
            return BAD;
        }
        List<Integer> all = new ArrayList<>();
        for (int i = 1; i < now.n(); i++) {
            if (now.panels.get(i).angle != 0) {
                all.add(i);
            }
        }
        List<Integer> order = new ArrayList<>();
        return now.order(0, all, order) && k < order.size() ? order.get(k) : NONE;
    }

    int imageAt(int panel, int x, int y, int axis) {
        if (!has(panel) || !in(x, -300, 300) || !in(y, -300, 300) || !in(axis, 0, 1)) {
            return BAD;
        }
        return now.panels.get(panel).image == NONE ? NONE : now.imageAt(panel, x, y)[axis];
    }

    int reach(int panel, int side) {
        return !has(panel) || !in(side, 0, 3) ? BAD : now.reach(panel, side);
    }

    int findingCount() {
        return now.findings().size();
    }

    int finding(int finding, int what) {
        List<int[]> all = now.findings();
        return in(finding, 0, all.size() - 1) && in(what, 0, 5) ? all.get(finding)[what] : BAD;
    }

    long totalCost() {
        return now.cost();
    }

    long panelCost(int panel) {
        if (!has(panel)) {
            return BAD;
        }
        long sum = 0;
        for (int[] f : now.findings()) {
            sum += f[1] == panel || f[3] == panel ? f[5] : 0;
        }
        return sum;
    }

    int bestDepth(int panel) {
        if (!hung(panel)) {
            return BAD;
        }
        int present = now.panels.get(panel).depth;
        List<long[]> all = new ArrayList<>();
        for (int d = 1; d <= 100; d++) {
            World w = now.copy();
            w.panels.get(panel).depth = d;
            if (w.valid()) {
                all.add(new long[] {w.cost(), Math.abs(d - present), d});
            }
        }
        all.sort(Comparator.<long[]>comparingLong(a -> a[0]).thenComparingLong(a -> a[1]).thenComparingLong(a -> a[2]));
        return all.isEmpty() ? NONE : (int) all.get(0)[2];
    }

    int bestAngle(int panel) {
        if (!hung(panel)) {
            return BAD;
        }
        int present = now.panels.get(panel).angle;
        long[] costs = new long[4];
        for (int a = -1; a <= 2; a++) {
            World w = now.copy();
            w.panels.get(panel).angle = a;
            costs[a + 1] = w.cost();
        }
        long least = Arrays.stream(costs).min().getAsLong();
        if (costs[present + 1] == least) {
            return present;
        }
        for (int a = -1; a <= 2; a++) {
            if (costs[a + 1] == least) {
                return a;
            }
        }
        throw new IllegalStateException();
    }

    int count(int what) {
        int angles = 0, flaps = 0, images = 0;
        for (int i = 1; i < now.n(); i++) {
            angles += now.panels.get(i).angle != 0 ? 1 : 0;
            flaps += now.panels.get(i).target != NONE ? 1 : 0;
        }
        for (int[] image : now.images) {
            images += image != null ? 1 : 0;
        }
        int slotsUsed = (slots[0] != null ? 1 : 0) + (slots[1] != null ? 1 : 0);
        int[] values = {now.n(), past.size(), slotsUsed, text.length(), angles, flaps, images};
        return in(what, 0, 6) ? values[what] : BAD;
    }
}
