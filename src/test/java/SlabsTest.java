import java.util.ArrayList;
import java.util.Arrays;
import java.util.List;
import java.util.Random;
import java.util.TreeSet;

/**
 * Long runs of calls, each answer compared with a model that works otherwise than the program: the
 * plane is cut upright at every vertex, and the cells between the cuts are joined through them.
 */
public final class SlabsTest {
    /** Nothing is promised after so many calls of one object. */
    private static final int CALLS = 512;
    private static final int MOST_AT_ONCE = 5;
    private static int wrong = 0;
    private static int bounded = 0;
    private static int holed = 0;

    public static void main(String[] args) {
        int[] reaches = {1, 2, 3, 4, 6, 10, 30, 100};
        for (int run = 0; run < 1200 && wrong < 20; run++) {
            new Run(run, reaches[run % reaches.length]).play();
        }
        if (bounded < 10000 || holed < 2000) {
            wrong++;
            System.out.println("the runs are too plain: " + bounded + " points in bounded faces, "
                + holed + " in faces with holes");
        }
        System.out.println(wrong == 0 ? "both ways agree" : wrong + " answers are not as due");
        if (wrong != 0) {
            System.exit(1);
        }
    }

    /** A height num / den, den > 0. */
    private record Height(long num, long den) implements Comparable<Height> {
        public int compareTo(Height o) {
            return Long.compare(num * o.den, o.num * den);
        }
    }

    private record Segment(int x, int y, int u, int v) {
        boolean upright() {
            return x == u;
        }

        /** The height at half of a doubled x. */
        Height at(int doubledX) {
            long den = 2L * (u - x);
            long num = y * den + (long) (v - y) * (doubledX - 2L * x);
            return den > 0 ? new Height(num, den) : new Height(-num, -den);
        }

        int low() {
            return Math.min(y, v);
        }

        int high() {
            return Math.max(y, v);
        }

        int left() {
            return Math.min(x, u);
        }

        int right() {
            return Math.max(x, u);
        }

        boolean endsAt(int px, int py) {
            return (x == px && y == py) || (u == px && v == py);
        }

        boolean holds(int px, int py) {
            if (px < left() || px > right()) {
                return false;
            }
            if (upright()) {
                return py >= low() && py <= high();
            }
            return at(2 * px).compareTo(new Height(py, 1)) == 0;
        }

        boolean hasInside(int px, int py) {
            return holds(px, py) && !endsAt(px, py);
        }

        boolean meets(Segment o) {
            long d1x = u - x;
            long d1y = v - y;
            long d2x = o.u - o.x;
            long d2y = o.v - o.y;
            long det = d1x * d2y - d1y * d2x;
            if (det != 0) {
                long t = (o.x - x) * d2y - (o.y - y) * d2x;
                long s = (o.x - x) * d1y - (o.y - y) * d1x;
                if (det < 0) {
                    det = -det;
                    t = -t;
                    s = -s;
                }
                boolean common = t >= 0 && t <= det && s >= 0 && s <= det;
                boolean endOfBoth = (t == 0 || t == det) && (s == 0 || s == det);
                return common && !endOfBoth;
            }
            if (d1x * (o.y - y) - d1y * (o.x - x) != 0) {
                return false;
            }
            long from = x * d1x + y * d1y;
            long to = u * d1x + v * d1y;
            long oFrom = o.x * d1x + o.y * d1y;
            long oTo = o.u * d1x + o.v * d1y;
            return Math.max(from, Math.min(oFrom, oTo)) < Math.min(to, Math.max(oFrom, oTo));
        }
    }

    private static final class Model {
        final Segment[] segments = new Segment[20];
        int[] cuts;
        List<List<Integer>> spanning;
        int[] firstCell;
        int[] face;
        int[][] sides;

        void rebuild() {
            TreeSet<Integer> xs = new TreeSet<>();
            for (Segment s : segments) {
                if (s != null) {
                    xs.add(s.x());
                    xs.add(s.u());
                }
            }
            cuts = xs.stream().mapToInt(i -> i).toArray();
            makeCells();
            sides = new int[20][2];
            for (int[] pair : sides) {
                Arrays.fill(pair, -1);
            }
            for (int c = 0; c < cuts.length; c++) {
                joinThrough(c);
            }
            seeSlantingSides();
        }

        /** Slab i lies between the cuts i - 1 and i; the outermost ones have no bound. */
        void makeCells() {
            spanning = new ArrayList<>();
            firstCell = new int[cuts.length + 2];
            for (int i = 0; i <= cuts.length; i++) {
                List<Integer> here = new ArrayList<>();
                if (i > 0 && i < cuts.length) {
                    int middle = cuts[i - 1] + cuts[i];
                    for (int k = 0; k < 20; k++) {
                        Segment s = segments[k];
                        if (s != null && 2 * s.left() < middle && 2 * s.right() > middle) {
                            here.add(k);
                        }
                    }
                    here.sort((a, b) -> segments[a].at(middle).compareTo(segments[b].at(middle)));
                }
                spanning.add(here);
                firstCell[i + 1] = firstCell[i] + here.size() + 1;
            }
            face = new int[firstCell[cuts.length + 1]];
            for (int i = 0; i < face.length; i++) {
                face[i] = i;
            }
        }

        int root(int cell) {
            while (face[cell] != cell) {
                cell = face[cell];
            }
            return cell;
        }

        void see(int k, int side, int cell) {
            if (sides[k][side] == -1) {
                sides[k][side] = cell;
            } else {
                face[root(cell)] = root(sides[k][side]);
            }
        }

        void joinThrough(int c) {
            int x = cuts[c];
            TreeSet<Height> stops = new TreeSet<>();
            for (Segment s : segments) {
                if (s == null || s.left() > x || s.right() < x) {
                    continue;
                }
                if (s.upright()) {
                    stops.add(new Height(s.low(), 1));
                    stops.add(new Height(s.high(), 1));
                } else {
                    stops.add(s.at(2 * x));
                }
            }
            List<Height> marks = new ArrayList<>(stops);
            marks.add(0, new Height(-1000, 1));
            marks.add(new Height(1000, 1));
            for (int i = 0; i + 1 < marks.size(); i++) {
                Height a = marks.get(i);
                Height b = marks.get(i + 1);
                Height between = new Height(a.num * b.den + b.num * a.den, 2 * a.den * b.den);
                int left = cellAt(c, 2 * x, between);
                int right = cellAt(c + 1, 2 * x, between);
                int wall = uprightAround(x, between);
                if (wall == -1) {
                    face[root(left)] = root(right);
                } else {
                    see(wall, 0, left);
                    see(wall, 1, right);
                }
            }
        }

        int uprightAround(int x, Height h) {
            for (int k = 0; k < 20; k++) {
                Segment s = segments[k];
                if (s != null && s.upright() && s.x() == x && new Height(s.low(), 1).compareTo(h) < 0
                    && new Height(s.high(), 1).compareTo(h) > 0) {
                    return k;
                }
            }
            return -1;
        }

        int cellAt(int slab, int doubledX, Height h) {
            int below = 0;
            for (int k : spanning.get(slab)) {
                if (segments[k].at(doubledX).compareTo(h) < 0) {
                    below++;
                }
            }
            return firstCell[slab] + below;
        }

        void seeSlantingSides() {
            for (int i = 0; i < spanning.size(); i++) {
                for (int j = 0; j < spanning.get(i).size(); j++) {
                    int k = spanning.get(i).get(j);
                    see(k, 1, firstCell[i] + j);
                    see(k, 0, firstCell[i] + j + 1);
                }
            }
        }

        int slabOf(int x) {
            int slab = 0;
            while (slab < cuts.length && cuts[slab] < x) {
                slab++;
            }
            return slab;
        }

        boolean free(int x, int y) {
            for (Segment s : segments) {
                if (s != null && s.holds(x, y)) {
                    return false;
                }
            }
            return true;
        }

        int faceOf(int x, int y) {
            return root(cellAt(slabOf(x), 2 * x, new Height(y, 1)));
        }

        int faces() {
            int count = 0;
            for (int i = 0; i < face.length; i++) {
                count += face[i] == i ? 1 : 0;
            }
            return count;
        }

        int area(int f) {
            double twice = 0;
            for (int i = 0; i < spanning.size(); i++) {
                List<Integer> here = spanning.get(i);
                for (int j = 0; j <= here.size(); j++) {
                    if (root(firstCell[i] + j) != f) {
                        continue;
                    }
                    if (j == 0 || j == here.size()) {
                        return 0;
                    }
                    int middle = cuts[i - 1] + cuts[i];
                    Height low = segments[here.get(j - 1)].at(middle);
                    Height high = segments[here.get(j)].at(middle);
                    twice += 2.0 * (cuts[i] - cuts[i - 1])
                        * ((double) high.num / high.den - (double) low.num / low.den);
                }
            }
            return (int) Math.round(twice);
        }

        int touches(int f, int k) {
            return (root(sides[k][0]) == f ? 1 : 0) + (root(sides[k][1]) == f ? 2 : 0);
        }

        int border(int f) {
            int count = 0;
            for (int k = 0; k < 20; k++) {
                count += segments[k] == null ? 0 : Integer.bitCount(touches(f, k));
            }
            return count;
        }

        int find(int x, int y) {
            int ends = 0;
            for (int k = 0; k < 20; k++) {
                if (segments[k] != null && segments[k].hasInside(x, y)) {
                    return 100 + k;
                }
                ends += segments[k] != null && segments[k].endsAt(x, y) ? 1 : 0;
            }
            if (ends > 0) {
                return 200 + ends;
            }
            int best = -1;
            Height least = new Height(1000, 1);
            for (int k = 0; k < 20; k++) {
                Segment s = segments[k];
                if (s == null || s.left() > x || s.right() < x) {
                    continue;
                }
                Height h = s.upright() ? new Height(s.low(), 1) : s.at(2 * x);
                if (h.compareTo(new Height(y, 1)) > 0 && h.compareTo(least) < 0) {
                    least = h;
                    best = k;
                }
            }
            return best;
        }

        int add(int x, int y, int u, int v) {
            for (int c : new int[] {x, y, u, v}) {
                if (Math.abs(c) > 100) {
                    return -2;
                }
            }
            if (x == u && y == v) {
                return -2;
            }
            int number = 0;
            while (number < 20 && segments[number] != null) {
                number++;
            }
            if (number == 20) {
                return -3;
            }
            Segment s = new Segment(x, y, u, v);
            for (int k = 0; k < 20; k++) {
                if (segments[k] != null && s.meets(segments[k])) {
                    return -10 - k;
                }
            }
            segments[number] = s;
            rebuild();
            return number;
        }

        boolean remove(int k) {
            if (k < 0 || k >= 20 || segments[k] == null) {
                return false;
            }
            segments[k] = null;
            rebuild();
            return true;
        }

        int count() {
            int count = 0;
            for (Segment s : segments) {
                count += s == null ? 0 : 1;
            }
            return count;
        }

        int vertices() {
            TreeSet<Integer> points = new TreeSet<>();
            for (Segment s : segments) {
                if (s != null) {
                    points.add(1000 * s.x() + s.y());
                    points.add(1000 * s.u() + s.v());
                }
            }
            return points.size();
        }

        int parts() {
            boolean[] seen = new boolean[20];
            int count = 0;
            for (int k = 0; k < 20; k++) {
                if (segments[k] != null && !seen[k]) {
                    count++;
                    spread(k, seen);
                }
            }
            return count;
        }

        int partsAround(int f) {
            boolean[] seen = new boolean[20];
            int count = 0;
            for (int k = 0; k < 20; k++) {
                if (segments[k] != null && !seen[k] && touches(f, k) > 0) {
                    count++;
                    spread(k, seen);
                }
            }
            return count;
        }

        void spread(int k, boolean[] seen) {
            seen[k] = true;
            Segment s = segments[k];
            for (int m = 0; m < 20; m++) {
                Segment o = segments[m];
                if (o != null && !seen[m] && (o.endsAt(s.x(), s.y()) || o.endsAt(s.u(), s.v()))) {
                    spread(m, seen);
                }
            }
        }
    }

    private static final class Run {
        final int number;
        final int reach;
        final Random random;
        final FaceAtlas atlas = new FaceAtlas();
        final Model model = new Model();
        int calls = 0;

        Run(int number, int reach) {
            this.number = number;
            this.reach = reach;
            this.random = new Random(7919L * number + 17);
            model.rebuild();
        }

        void due(String call, int got, int want) {
            calls++;
            if (got != want) {
                wrong++;
                System.out.println("run " + number + ", call " + calls + ": " + call + " answered " + got
                    + ", due is " + want + " with " + Arrays.toString(model.segments));
            }
        }

        int coordinate() {
            return random.nextInt(200) == 0 ? 101 : random.nextInt(2 * reach + 1) - reach;
        }

        /** Ends that are there already make for more faces than ends anywhere. */
        int[] end() {
            Segment s = model.segments[random.nextInt(20)];
            if (s != null && random.nextInt(3) > 0) {
                return random.nextBoolean() ? new int[] {s.x(), s.y()} : new int[] {s.u(), s.v()};
            }
            return new int[] {coordinate(), coordinate()};
        }

        void play() {
            if (number % 3 > 0) {
                frame();
            }
            while (calls + MOST_AT_ONCE <= CALLS) {
                int kind = random.nextInt(100);
                if (kind < 35) {
                    add();
                } else if (kind < 41) {
                    int k = random.nextInt(22) - 1;
                    due("remove " + k, atlas.remove(k) ? 1 : 0, model.remove(k) ? 1 : 0);
                } else if (kind < 50) {
                    counts();
                } else {
                    ask();
                }
            }
            while (calls < CALLS) {
                due("faces", atlas.faces(), model.faces());
            }
        }

        void frame() {
            int r = reach;
            int[] xs = {-r, r, r, -r};
            int[] ys = {-r, -r, r, r};
            for (int i = 0; i < 4; i++) {
                int j = (i + 1) % 4;
                due("add", atlas.add(xs[i], ys[i], xs[j], ys[j]), model.add(xs[i], ys[i], xs[j], ys[j]));
            }
        }

        void add() {
            int[] a = end();
            int[] b = end();
            if (random.nextInt(3) == 0) {
                b = new int[] {a[0] + random.nextInt(5) - 2, a[1] + random.nextInt(5) - 2};
            }
            due("add " + Arrays.toString(a) + Arrays.toString(b),
                atlas.add(a[0], a[1], b[0], b[1]), model.add(a[0], a[1], b[0], b[1]));
        }

        void counts() {
            due("segments", atlas.segments(), model.count());
            due("vertices", atlas.vertices(), model.vertices());
            due("parts", atlas.parts(), model.parts());
            due("faces", atlas.faces(), model.faces());
        }

        void ask() {
            int x = coordinate();
            int y = coordinate();
            int u = coordinate();
            int v = coordinate();
            int k = random.nextInt(20);
            boolean bad = Math.abs(x) > 100 || Math.abs(y) > 100;
            boolean otherBad = Math.abs(u) > 100 || Math.abs(v) > 100;
            boolean free = !bad && model.free(x, y);
            int refused = bad ? -2 : -1;
            int f = free ? model.faceOf(x, y) : -1;
            int area = free ? model.area(f) : refused;
            boolean same = free && !otherBad && model.free(u, v) && model.faceOf(u, v) == f;
            String at = " " + x + " " + y;
            due("find" + at, atlas.find(x, y), bad ? -2 : model.find(x, y));
            due("same" + at + " " + u + " " + v, atlas.same(x, y, u, v) ? 1 : 0, same ? 1 : 0);
            due("area" + at, atlas.area(x, y), area);
            due("border" + at, atlas.border(x, y), free ? model.border(f) : refused);
            due("touches" + at + " " + k, atlas.touches(x, y, k),
                !free ? refused : model.segments[k] == null ? -1 : model.touches(f, k));
            bounded += area > 0 ? 1 : 0;
            holed += area > 0 && model.partsAround(f) > 1 ? 1 : 0;
        }
    }
}
