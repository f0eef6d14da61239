import java.util.ArrayList;
import java.util.List;

/**
 * Each sentence of the document that names a boundary case, in the document's order: too small, too
 * large, empty, full, a wrap-around, a refused call. The due answer stands first in each call.
 */
public final class BoundariesTest {
    private static final int CALLS = 512;
    private static final int NONE = -1;
    private static final int BAD = -2;
    private static final int FULL = -3;
    private static final int[] JUST_NEARBY = {-100, 100};
    private static final int[] NOT_NEARBY = {-101, 101, Integer.MIN_VALUE, Integer.MAX_VALUE,
        // These come near if they are cut to fewer bits, doubled or turned about.
        256, 65536, 1 << 30, Integer.MIN_VALUE + 1, Integer.MAX_VALUE - 1};
    private static final int[] NO_NUMBER = {-1, 20, Integer.MIN_VALUE, Integer.MAX_VALUE,
        -20, 21, 39, 40, 256, 65536, 1 << 30, Integer.MIN_VALUE + 1, Integer.MIN_VALUE + 3};

    private static int wrong = 0;
    private static int tests = 0;
    private static String test = "";

    public static void main(String[] args) {
        terms();
        newObject();
        add();
        remove();
        counts();
        find();
        same();
        area();
        border();
        touches();
        facesBelowEnds();
        longRuns();
        System.out.println(wrong == 0 ? "all " + tests + " boundaries hold" : wrong + " answers are not as due");
        if (wrong != 0) {
            System.exit(1);
        }
    }

    private static void begin(String name) {
        test = name;
        tests++;
    }

    private static void due(String what, Object got, Object want) {
        if (!want.equals(got)) {
            wrong++;
            System.out.println("[" + test + "] " + what + " answered " + got + ", due is " + want);
        }
    }

    /** One object and its calls, which are counted: nothing is promised after the 512th. */
    private static final class Sheet {
        final FaceAtlas atlas = new FaceAtlas();
        int calls = 0;

        void check(String call, Object got, Object want) {
            calls++;
            due("call " + calls + ", " + call, got, want);
            if (calls == CALLS + 1) {
                due("the test's own count of calls", calls, CALLS);
            }
        }

        void add(int want, int x, int y, int u, int v) {
            check("add " + x + " " + y + " " + u + " " + v, atlas.add(x, y, u, v), want);
        }

        void remove(boolean want, int k) {
            check("remove " + k, atlas.remove(k), want);
        }

        void counts(int segments, int vertices, int parts, int faces) {
            check("segments", atlas.segments(), segments);
            check("vertices", atlas.vertices(), vertices);
            check("parts", atlas.parts(), parts);
            check("faces", atlas.faces(), faces);
        }

        void find(int want, int x, int y) {
            check("find " + x + " " + y, atlas.find(x, y), want);
        }

        void same(boolean want, int x, int y, int u, int v) {
            check("same " + x + " " + y + " " + u + " " + v, atlas.same(x, y, u, v), want);
            check("same " + u + " " + v + " " + x + " " + y, atlas.same(u, v, x, y), want);
        }

        void area(int want, int x, int y) {
            check("area " + x + " " + y, atlas.area(x, y), want);
        }

        void border(int want, int x, int y) {
            check("border " + x + " " + y, atlas.border(x, y), want);
        }

        void touches(int want, int x, int y, int k) {
            check("touches " + x + " " + y + " " + k, atlas.touches(x, y, k), want);
        }

        /** Adds a closed line through the points x, y, x, y ...; its numbers go on from the count so far. */
        Sheet ring(int... points) {
            int n = points.length;
            int first = atlas.segments();
            calls++;
            for (int i = 0; i < n; i += 2) {
                add(first + i / 2, points[i], points[i + 1], points[(i + 2) % n], points[(i + 3) % n]);
            }
            return this;
        }

        Sheet square(int x, int y, int size) {
            return ring(x, y, x + size, y, x + size, y + size, x, y + size);
        }

        /** All that can be asked at some points, to be compared with another object's answers. */
        String picture() {
            int[][] points = {{0, 0}, {-100, -100}, {100, 100}, {5, 5}, {10, 10}, {15, 0}, {0, -50}, {3, 1}};
            List<Integer> all = new ArrayList<>();
            all.add(atlas.segments());
            all.add(atlas.vertices());
            all.add(atlas.parts());
            all.add(atlas.faces());
            for (int[] p : points) {
                all.add(atlas.find(p[0], p[1]));
                all.add(atlas.same(p[0], p[1], 15, 0) ? 1 : 0);
                all.add(atlas.area(p[0], p[1]));
                all.add(atlas.border(p[0], p[1]));
                for (int k = 0; k < 20; k++) {
                    all.add(atlas.touches(p[0], p[1], k));
                }
            }
            calls += all.size();
            due("the test's own count of calls is too great, which", calls > CALLS, false);
            return all.toString();
        }
    }

    /** Twenty upright segments: number k from (5k - 50, -10) to (5k - 50, 10). */
    private static Sheet fence() {
        Sheet sheet = new Sheet();
        for (int k = 0; k < 20; k++) {
            sheet.add(k, 5 * k - 50, -10, 5 * k - 50, 10);
        }
        return sheet;
    }

    /** Five squares around one another, the outermost one first, along the rim of what is nearby. */
    private static Sheet nest() {
        Sheet sheet = new Sheet();
        for (int r = 100; r > 0; r -= 20) {
            sheet.square(-r, -r, 2 * r);
        }
        return sheet;
    }

    /** A square with a hole in it and a loose segment: nine segments. */
    private static Sheet mixture() {
        Sheet sheet = new Sheet().square(-20, -20, 40).square(-4, -4, 8);
        sheet.add(8, 8, 8, 12, 12);
        return sheet;
    }

    // ---- Terms

    private static void terms() {
        begin("Terms: a segment from corner to corner of what is nearby");
        Sheet corners = new Sheet();
        corners.add(0, -100, -100, 100, 100);
        corners.find(100, 0, 0);
        corners.find(201, 100, 100);
        corners.find(201, -100, -100);
        begin("Terms: the shortest segments");
        Sheet shortest = new Sheet();
        shortest.add(0, 0, 0, 1, 0);
        shortest.add(1, 0, 0, 0, 1);
        shortest.add(2, 1, 0, 0, 1);
        shortest.counts(3, 3, 1, 2);
        begin("Terms: the shortest insides with a nearby point");
        for (int[] d : new int[][] {{1, 0}, {0, 1}, {1, 1}, {1, -1}}) {
            Sheet sheet = new Sheet();
            sheet.add(0, -d[0], -d[1], d[0], d[1]);
            sheet.find(100, 0, 0);
            sheet.border(NONE, 0, 0);
            sheet.add(-10, 0, 0, 50, 49);
        }
        begin("Terms: the narrowest turns around a vertex");
        Sheet around = new Sheet();
        int[] ring = {1, 0, 1, 1, 0, 1, -1, 1, -1, 0, -1, -1, 0, -1, 1, -1};
        for (int i = 0; i < 8; i++) {
            around.add(i, 0, 0, ring[2 * i], ring[2 * i + 1]);
        }
        around.border(16, 50, 50);
        around.ring(ring);
        around.counts(16, 9, 1, 9);
        around.border(8, 50, 50);
        around.find(208, 0, 0);
        begin("Terms: numbers 0 and 19");
        Sheet fence = fence();
        fence.find(100, -50, 0);
        fence.find(119, 45, 0);
        begin("Terms: a face without a nearby point counts, the far one too");
        Sheet rim = new Sheet().square(-100, -100, 200);
        rim.counts(4, 4, 1, 2);
        rim.find(101, 100, 0);
        rim.remove(true, 1);
        rim.counts(3, 4, 1, 1);
        begin("Terms: ways through points that are not nearby");
        Sheet spokes = new Sheet();
        spokes.add(0, 0, 0, 100, 0);
        spokes.add(1, 0, 0, 0, 100);
        spokes.add(2, 0, 0, -100, 0);
        spokes.add(3, 0, 0, 0, -100);
        spokes.same(true, 1, 1, -1, -1);
        spokes.same(true, -100, 100, 100, -100);
        spokes.counts(4, 5, 1, 1);
        begin("Terms: two segments in one part by a third one alone");
        Sheet third = new Sheet();
        third.add(0, 0, 0, 1, 0);
        third.add(1, 3, 0, 2, 0);
        third.counts(2, 4, 2, 1);
        third.add(2, 1, 0, 2, 0);
        third.counts(3, 4, 1, 1);
    }

    // ---- Promise 1

    private static void newObject() {
        begin("1: the counts of no segments");
        new Sheet().counts(0, 0, 0, 1);
        begin("1: each point is free and in the one face");
        Sheet empty = new Sheet();
        for (int x = -100; x <= 100; x += 50) {
            for (int y = -100; y <= 100; y += 50) {
                empty.find(NONE, x, y);
                empty.same(true, x, y, 100, -100);
                empty.area(0, x, y);
                empty.border(0, x, y);
                empty.touches(NONE, x, y, 0);
                empty.touches(NONE, x, y, 19);
            }
        }
        begin("1: wrong arguments without segments");
        Sheet asked = new Sheet();
        for (int far : NOT_NEARBY) {
            asked.find(BAD, far, 0);
            asked.same(false, far, 0, far, 0);
            asked.area(BAD, 0, far);
            asked.border(BAD, far, far);
            asked.touches(BAD, far, 0, 0);
            asked.add(BAD, far, 0, 1, 1);
        }
        for (int k : NO_NUMBER) {
            asked.remove(false, k);
            asked.touches(NONE, 0, 0, k);
        }
        for (int k = 0; k < 20; k++) {
            asked.remove(false, k);
            asked.touches(NONE, 0, 0, k);
        }
        asked.counts(0, 0, 0, 1);
        begin("1: the first segment gets number 0");
        asked.add(0, 0, 0, 1, 1);
        begin("1: objects know nothing of one another");
        new Sheet().counts(0, 0, 0, 1);
        asked.counts(1, 2, 1, 1);
    }

    // ---- Promise 2

    private static void add() {
        addBad();
        addSameEnds();
        addFull();
        addOrderOfRefusals();
        addLeastNumber();
        addMeetingNumbers();
        addMeetings();
        addChangesNothing();
    }

    private static void addBad() {
        begin("2: -100 and 100 at each argument");
        for (int near : JUST_NEARBY) {
            for (int place = 0; place < 4; place++) {
                int[] e = {3, 4, 5, 7};
                e[place] = near;
                Sheet sheet = new Sheet();
                sheet.add(0, e[0], e[1], e[2], e[3]);
                sheet.find(201, e[0], e[1]);
                sheet.find(201, e[2], e[3]);
            }
        }
        begin("2: BAD, too small or too large at each argument");
        Sheet sheet = new Sheet();
        for (int far : NOT_NEARBY) {
            sheet.add(BAD, far, 4, 5, 7);
            sheet.add(BAD, 3, far, 5, 7);
            sheet.add(BAD, 3, 4, far, 7);
            sheet.add(BAD, 3, 4, 5, far);
        }
        begin("2: BAD, more than one argument");
        for (int far : NOT_NEARBY) {
            sheet.add(BAD, far, far, 5, 7);
            sheet.add(BAD, 3, 4, far, far);
            sheet.add(BAD, far, 4, far, 7);
            sheet.add(BAD, far, -far, -far, far);
        }
        begin("2: BAD, a number beside the rim at each corner");
        sheet.add(BAD, -100, -100, 101, 100);
        sheet.add(BAD, -100, -100, 100, 101);
        sheet.add(BAD, -101, -100, 100, 100);
        sheet.add(BAD, -100, -101, 100, 100);
        sheet.counts(0, 0, 0, 1);
    }

    private static void addSameEnds() {
        begin("2: BAD, two ends that are the same");
        Sheet sheet = new Sheet();
        for (int x : new int[] {-100, -1, 0, 1, 100}) {
            for (int y : new int[] {-100, 0, 100}) {
                sheet.add(BAD, x, y, x, y);
            }
        }
        begin("2: BAD, the same ends and not nearby");
        for (int far : NOT_NEARBY) {
            sheet.add(BAD, far, far, far, far);
        }
        sheet.counts(0, 0, 0, 1);
        begin("2: ends with one number in common are not the same");
        sheet.add(0, 7, 1, 7, 2);
        sheet.add(1, 8, 1, 9, 1);
        begin("2: ends with swapped numbers are not the same");
        sheet.add(2, 20, 30, 30, 20);
        sheet.add(3, -5, 5, 5, -5);
    }

    private static void addFull() {
        begin("2: the twentieth is added, the next one is FULL");
        Sheet sheet = fence();
        sheet.add(FULL, -100, 50, 100, 50);
        sheet.add(FULL, -50, 10, -45, 10);
        sheet.counts(20, 40, 20, 1);
        begin("2: FULL goes when any one is taken away, and comes back");
        for (int k = 0; k < 20; k++) {
            sheet.remove(true, k);
            sheet.add(k, -100, 20 + k, 100, 20 + k);
            sheet.add(FULL, -100, 90, 100, 90);
        }
    }

    private static void addOrderOfRefusals() {
        begin("2: BAD before FULL");
        Sheet full = fence();
        full.add(BAD, 70, 70, 70, 70);
        full.add(BAD, 101, 70, 70, 70);
        full.add(BAD, 70, -101, 80, 80);
        begin("2: FULL before a meeting");
        full.add(FULL, -60, 0, 60, 0);
        full.add(FULL, -50, -10, -50, 10);
        full.add(FULL, 45, 0, 60, 0);
        begin("2: BAD before FULL before a meeting");
        full.add(BAD, -50, 0, -50, 0);
        full.add(BAD, -101, 0, 101, 0);
        full.add(BAD, -50, -10, -50, -10);
        begin("2: BAD before a meeting");
        full.remove(true, 7);
        full.add(BAD, -60, 0, 101, 0);
        full.add(BAD, -101, 0, 60, 0);
        full.add(BAD, -50, 0, -50, 0);
        full.add(BAD, 45, 10, 45, 10);
        begin("2: a meeting alone");
        full.add(-10, -60, 0, 60, 0);
        full.counts(19, 38, 19, 1);
    }

    private static void addLeastNumber() {
        begin("2: the numbers in order");
        Sheet sheet = fence();
        begin("2: the least number after a remove");
        for (int k : new int[] {19, 0, 10}) {
            sheet.remove(true, k);
        }
        sheet.add(0, 0, 50, 1, 50);
        sheet.add(10, 0, 51, 1, 51);
        sheet.add(19, 0, 52, 1, 52);
        begin("2: the least number where two are together");
        sheet.remove(true, 5);
        sheet.remove(true, 4);
        sheet.add(4, 0, 53, 1, 53);
        sheet.add(5, 0, 54, 1, 54);
        begin("2: the least number after a refused call");
        sheet.remove(true, 8);
        sheet.add(BAD, 0, 0, 0, 0);
        sheet.add(-10, 0, 49, 1, 51);
        sheet.add(8, 0, 55, 1, 55);
        begin("2: the least number is 0 again when all are taken away");
        for (int k = 19; k >= 0; k--) {
            sheet.remove(true, k);
        }
        sheet.add(0, 0, 55, 1, 55);
        sheet.add(1, 0, 54, 1, 54);
        begin("2: a number between that was never given");
        Sheet few = new Sheet();
        few.add(0, 0, 0, 1, 0);
        few.add(1, 0, 1, 1, 1);
        few.remove(true, 1);
        few.add(1, 0, 2, 1, 2);
        few.add(2, 0, 3, 1, 3);
    }

    private static void addMeetingNumbers() {
        begin("2: -10 for segment 0 to -29 for segment 19");
        for (int k = 0; k < 20; k++) {
            Sheet sheet = fence();
            sheet.remove(true, k == 0 ? 1 : 0);
            int x = 5 * k - 50;
            sheet.add(-10 - k, x - 1, 0, x + 1, 0);
            sheet.add(-10 - k, x, 10, x, -10);
            sheet.add(-10 - k, x, -100, x, 100);
        }
        begin("2: the least of those met, wherever they lie");
        Sheet rows = new Sheet();
        for (int k = 0; k < 19; k++) {
            // 7 goes round all the nineteen places before it comes back to one.
            int y = 5 * (7 * k % 19);
            rows.add(k, 0, y, 50, y);
        }
        for (int k = 0; k < 18; k++) {
            rows.add(-10 - k, 10, 100, 10, -1);
            rows.add(-10 - k, 10, -1, 10, 100);
            rows.remove(true, k);
        }
        rows.add(-28, 10, 100, 10, -1);
        rows.remove(true, 18);
        rows.add(0, 10, 100, 10, -1);
        begin("2: a number that was given again is met as such");
        Sheet again = fence();
        again.remove(true, 0);
        again.remove(true, 3);
        again.add(0, 60, -10, 60, 10);
        again.add(-10, 42, 0, 62, 0);
        again.add(-29, 42, 0, 59, 0);
        again.add(3, 46, 0, 59, 0);
    }

    private static void addMeetings() {
        begin("2: the same two ends meet, either way");
        for (int[] e : new int[][] {{0, 0, 1, 0}, {0, 0, 0, 1}, {-100, -100, 100, 100}, {3, 9, 7, 2}}) {
            Sheet sheet = new Sheet();
            sheet.add(0, e[0], e[1], e[2], e[3]);
            sheet.add(-10, e[0], e[1], e[2], e[3]);
            sheet.add(-10, e[2], e[3], e[0], e[1]);
            sheet.remove(true, 0);
            sheet.add(0, e[2], e[3], e[0], e[1]);
            sheet.add(-10, e[0], e[1], e[2], e[3]);
        }
        begin("2: one end in common does not meet, straight on neither");
        Sheet sheet = new Sheet();
        sheet.add(0, -50, 0, 0, 0);
        sheet.add(1, 0, 0, 50, 0);
        sheet.add(2, 0, 0, 0, 50);
        sheet.add(3, 0, -50, 0, 0);
        sheet.add(4, 1, 50, 0, 0);
        begin("2: one end in common and more meets");
        sheet.add(-10, 0, 0, -49, 0);
        sheet.add(-10, -50, 0, -1, 0);
        sheet.add(-11, 0, 0, 100, 0);
        sheet.add(-12, 0, 0, 0, 1);
        sheet.add(-13, 0, 0, 0, -100);
        sheet.add(-10, -50, 0, 50, 0);
        begin("2: an end in an inside meets, beside it does not");
        sheet.add(-10, -1, 0, -1, -1);
        sheet.add(-12, 0, 49, -9, 49);
        sheet.add(5, -1, -1, -1, -2);
        sheet.add(6, 0, 51, -9, 51);
        begin("2: along the rim of what is nearby");
        Sheet rim = new Sheet().square(-100, -100, 200);
        rim.add(-10, 0, -100, 0, 0);
        rim.add(-11, 0, 0, 100, 0);
        rim.add(-11, 99, 100, 100, 99);
        rim.add(-12, 0, 100, 0, 0);
        rim.add(-13, -100, -99, -100, 99);
        rim.add(-10, -99, -100, 0, 0);
        rim.add(4, -100, -100, 100, 100);
        rim.add(-14, -100, 100, 100, -100);
        rim.add(-14, -1, 0, 1, 1);
        begin("2: insides that cross between the whole points");
        Sheet slim = new Sheet();
        slim.add(0, -100, 0, 100, 1);
        slim.add(-10, -100, 1, 100, 0);
        slim.add(-10, 99, 1, 100, 0);
        slim.add(-10, -100, -1, 100, 2);
        slim.add(1, -100, -1, 99, 0);
        slim.add(2, -99, 1, 99, 1);
    }

    private static void addChangesNothing() {
        begin("2: BAD changes nothing");
        Sheet bad = mixture();
        for (int far : NOT_NEARBY) {
            bad.add(BAD, 0, 0, far, 0);
            bad.add(BAD, far, 5, 5, 5);
        }
        bad.add(BAD, 15, 0, 15, 0);
        due("picture", bad.picture(), mixture().picture());
        bad.add(9, 15, 0, 15, 1);
        begin("2: FULL changes nothing");
        Sheet full = nest();
        full.add(FULL, 5, 5, 10, 10);
        full.add(FULL, 0, 0, 15, 0);
        full.add(FULL, -100, -100, 100, 100);
        due("picture", full.picture(), nest().picture());
        begin("2: a meeting changes nothing");
        Sheet met = mixture();
        met.add(-10, 0, -50, 0, 50);
        met.add(-18, 8, 12, 12, 8);
        met.add(-14, -9, -4, 9, -4);
        due("picture", met.picture(), mixture().picture());
        met.add(9, 5, 0, 15, 0);
        begin("2: a meeting on a number that was taken away changes nothing");
        Sheet taken = mixture();
        taken.remove(true, 5);
        taken.add(-10, 0, -50, 0, 50);
        taken.add(-18, 8, 12, 12, 8);
        Sheet twin = mixture();
        twin.remove(true, 5);
        due("picture", taken.picture(), twin.picture());
        taken.add(5, 4, -4, 4, 4);
        due("picture", taken.picture(), mixture().picture());
    }

    // ---- Promise 3

    private static void remove() {
        begin("3: false for a number below 0 or above 19");
        Sheet full = nest();
        for (int k : NO_NUMBER) {
            full.remove(false, k);
        }
        begin("3: a refused remove changes nothing, of twenty");
        due("picture", full.picture(), nest().picture());
        begin("3: false for a number that was never given");
        Sheet some = mixture();
        for (int k = 9; k < 20; k++) {
            some.remove(false, k);
        }
        begin("3: a refused remove changes nothing, of nine");
        due("picture", some.picture(), mixture().picture());
        begin("3: false for a number that was taken away, true when it is given again");
        for (int k = 0; k < 9; k++) {
            some.remove(true, k);
            some.remove(false, k);
        }
        some.counts(0, 0, 0, 1);
        some.remove(false, 0);
        some.add(0, 0, 0, 1, 0);
        some.remove(false, 1);
        some.remove(true, 0);
        some.remove(false, 0);
        begin("3: false for the number of an add that was refused");
        Sheet refused = new Sheet();
        refused.add(0, 0, 0, 2, 2);
        refused.add(-10, 0, 2, 2, 0);
        refused.remove(false, 1);
        refused.add(BAD, 0, 0, 0, 0);
        refused.remove(false, 1);
        refused.counts(1, 2, 1, 1);
        begin("3: the others keep their numbers");
        Sheet fence = fence();
        for (int k = 0; k < 19; k++) {
            fence.remove(true, k);
            fence.find(NONE, 5 * k - 50, 0);
            fence.find(101 + k, 5 * k - 45, 0);
            fence.find(119, 45, 0);
        }
        fence.remove(true, 19);
        fence.counts(0, 0, 0, 1);
        begin("3: an end goes with its last segment");
        Sheet corner = new Sheet();
        corner.add(0, 0, 0, 5, 0);
        corner.add(1, 0, 0, 0, 5);
        corner.find(202, 0, 0);
        corner.remove(true, 0);
        corner.find(201, 0, 0);
        corner.remove(true, 1);
        corner.find(NONE, 0, 0);
    }

    // ---- Promises 4 to 7

    private static void counts() {
        begin("4 to 7: twenty apart and back to none");
        Sheet apart = new Sheet();
        apart.counts(0, 0, 0, 1);
        for (int k = 0; k < 20; k++) {
            apart.add(k, 5 * k - 50, -10, 5 * k - 50, 10);
            apart.counts(k + 1, 2 * k + 2, k + 1, 1);
        }
        for (int k = 19; k >= 0; k--) {
            apart.remove(true, k);
            apart.counts(k, 2 * k, k, 1);
        }
        begin("4 to 7: twenty with one end in common and back to none");
        Sheet star = new Sheet();
        for (int k = 0; k < 20; k++) {
            star.add(k, 0, 0, k - 10, 50);
            star.counts(k + 1, k + 2, 1, 1);
        }
        for (int k = 0; k < 20; k++) {
            star.remove(true, k);
            star.counts(19 - k, k == 19 ? 0 : 20 - k, k == 19 ? 0 : 1, 1);
        }
        begin("4 to 7: a chain of twenty, cut at every second");
        Sheet chain = new Sheet();
        for (int k = 0; k < 20; k++) {
            chain.add(k, k, 0, k + 1, 0);
            chain.counts(k + 1, k + 2, 1, 1);
        }
        for (int i = 1; i <= 9; i++) {
            chain.remove(true, 2 * i);
            chain.counts(20 - i, 21, 1 + i, 1);
        }
        ringOfTwenty();
        mostFaces();
        nested();
        mixedParts();
    }

    private static Sheet ladderRim() {
        Sheet sheet = new Sheet();
        int[] points = new int[40];
        for (int i = 0; i < 10; i++) {
            points[2 * i] = i;
            points[20 + 2 * i] = 9 - i;
            points[21 + 2 * i] = 5;
        }
        return sheet.ring(points);
    }

    private static void ringOfTwenty() {
        begin("4 to 7: a ring of twenty and back to none");
        Sheet ring = ladderRim();
        ring.counts(20, 20, 1, 2);
        ring.remove(true, 0);
        ring.counts(19, 20, 1, 1);
        ring.remove(true, 10);
        ring.counts(18, 20, 2, 1);
        for (int k = 1; k < 20; k++) {
            ring.remove(k != 10, k);
        }
        ring.counts(0, 0, 0, 1);
        begin("7: the last segment of a ring makes the face, whichever it is");
        for (int k = 0; k < 4; k++) {
            Sheet square = new Sheet().square(0, 0, 10);
            square.counts(4, 4, 1, 2);
            square.remove(true, k);
            square.counts(3, 4, 1, 1);
        }
    }

    /** Nine vertices and twenty segments: each bounded face is a triangle, and so is none more. */
    private static Sheet triangles() {
        int[][] mids = {{0, -8}, {8, 0}, {0, 8}, {-8, 0}};
        int[][] corners = {{-10, -10}, {10, -10}, {10, 10}, {-10, 10}};
        Sheet sheet = new Sheet();
        for (int i = 0; i < 4; i++) {
            int j = (i + 1) % 4;
            sheet.add(5 * i, corners[i][0], corners[i][1], corners[j][0], corners[j][1]);
            sheet.add(5 * i + 1, corners[i][0], corners[i][1], mids[i][0], mids[i][1]);
            sheet.add(5 * i + 2, mids[i][0], mids[i][1], corners[j][0], corners[j][1]);
            sheet.add(5 * i + 3, mids[i][0], mids[i][1], 0, 0);
            sheet.add(5 * i + 4, mids[i][0], mids[i][1], mids[j][0], mids[j][1]);
        }
        return sheet;
    }

    private static void mostFaces() {
        begin("7: the most faces that twenty segments make, and back to one");
        Sheet sheet = triangles();
        sheet.counts(20, 9, 1, 13);
        sheet.area(64, 2, 2);
        sheet.area(96, 5, 6);
        sheet.area(40, 0, -9);
        for (int k = 0; k < 20; k++) {
            sheet.remove(true, k);
            int left = 19 - k;
            int vertices = sheet.atlas.vertices();
            int parts = sheet.atlas.parts();
            sheet.calls += 2;
            // Euler's count holds for every map.
            sheet.counts(left, vertices, parts, left - vertices + parts + 1);
        }
        sheet.counts(0, 0, 0, 1);
    }

    private static void nested() {
        begin("6 and 7: twenty in five rings around one another, and back to none");
        Sheet outwards = nest();
        outwards.counts(20, 20, 5, 6);
        for (int ring = 0; ring < 5; ring++) {
            for (int i = 0; i < 4; i++) {
                outwards.remove(true, 4 * ring + i);
            }
            outwards.counts(16 - 4 * ring, 16 - 4 * ring, 4 - ring, 5 - ring);
        }
        begin("6: in one part only by common ends, not by a common face");
        Sheet close = new Sheet();
        close.add(0, 0, 0, 10, 0);
        close.add(1, 0, 1, 10, 1);
        close.add(2, 5, 2, 5, 3);
        close.counts(3, 6, 3, 1);
    }

    private static void mixedParts() {
        begin("5 to 7: six triangles and two loose ones");
        Sheet sheet = new Sheet();
        for (int i = 0; i < 6; i++) {
            sheet.ring(10 * i, 0, 10 * i + 5, 0, 10 * i, 5);
        }
        sheet.add(18, 0, 50, 1, 51);
        sheet.add(19, 0, 60, 1, 61);
        sheet.counts(20, 22, 8, 7);
        begin("5 to 7: triangles that have one vertex in common");
        Sheet petals = new Sheet();
        petals.ring(0, 0, 10, 1, 10, -1);
        petals.ring(0, 0, -10, 1, -10, -1);
        petals.ring(0, 0, 1, 10, -1, 10);
        petals.counts(9, 7, 1, 4);
        petals.find(206, 0, 0);
        petals.remove(true, 1);
        petals.counts(8, 7, 1, 3);
        petals.remove(true, 0);
        petals.remove(true, 2);
        petals.counts(6, 5, 1, 3);
        begin("6: two ways from part to part, then one, then none");
        Sheet bridge = new Sheet().square(0, 0, 10).square(20, 0, 10);
        bridge.counts(8, 8, 2, 3);
        bridge.add(8, 10, 0, 20, 0);
        bridge.counts(9, 8, 1, 3);
        bridge.add(9, 10, 10, 20, 10);
        bridge.counts(10, 8, 1, 4);
        bridge.remove(true, 8);
        bridge.counts(9, 8, 1, 3);
        bridge.remove(true, 9);
        bridge.counts(8, 8, 2, 3);
    }

    // ---- Promise 8

    private static void find() {
        findRange();
        findOn();
        findUpright();
        findEnds();
        findLeastNumber();
        findFirstPoint();
    }

    private static void findRange() {
        begin("8: BAD, each argument");
        Sheet sheet = nest();
        for (int far : NOT_NEARBY) {
            for (int near : new int[] {-100, 0, 100}) {
                sheet.find(BAD, far, near);
                sheet.find(BAD, near, far);
            }
            sheet.find(BAD, far, far);
        }
        begin("8: -100 and 100 at each argument, on the corners and between them");
        for (int x : JUST_NEARBY) {
            for (int y : JUST_NEARBY) {
                sheet.find(202, x, y);
            }
        }
        sheet.find(100, 0, -100);
        sheet.find(101, 100, 0);
        sheet.find(102, 0, 100);
        sheet.find(103, -100, 0);
        begin("8: from the lowest row to the highest one");
        Sheet top = new Sheet();
        top.add(0, -100, 100, 100, 100);
        top.find(0, -100, -100);
        top.find(0, 0, -100);
        top.find(0, 100, -100);
        top.find(0, 100, 99);
        begin("8: nothing above the highest row");
        Sheet bottom = new Sheet();
        bottom.add(0, -100, -100, 100, -100);
        bottom.find(NONE, -100, 100);
        bottom.find(NONE, 100, 100);
        bottom.find(NONE, 0, -99);
    }

    private static void findOn() {
        begin("8: on a vertex, one to twenty segments");
        Sheet star = new Sheet();
        star.find(NONE, 0, 0);
        for (int k = 0; k < 20; k++) {
            star.add(k, k - 10, 50, 0, 0);
            star.find(201 + k, 0, 0);
        }
        for (int k = 0; k < 20; k++) {
            star.remove(true, k);
            star.find(k == 19 ? NONE : 219 - k, 0, 0);
        }
        begin("8: in the inside, each number");
        Sheet fence = fence();
        for (int k = 0; k < 20; k++) {
            fence.find(100 + k, 5 * k - 50, -9);
            fence.find(100 + k, 5 * k - 50, 9);
            fence.find(201, 5 * k - 50, -10);
        }
        begin("8: a vertex and an inside come before what is above");
        Sheet layers = new Sheet();
        layers.add(0, -10, 10, 10, 10);
        layers.add(1, -10, 0, 10, 0);
        layers.find(101, 0, 0);
        layers.find(201, 10, 0);
        layers.find(0, 0, 1);
        layers.find(1, 0, -1);
        begin("8: the inside of a slanting one has few nearby points");
        Sheet slant = new Sheet();
        slant.add(0, -100, -1, 100, 1);
        slant.find(100, 0, 0);
        slant.find(0, 1, 0);
        slant.find(NONE, -1, 0);
        slant.find(0, 99, 0);
        slant.find(NONE, -99, 0);
        slant.find(NONE, 99, 1);
    }

    private static void findUpright() {
        begin("8: below, on and above an upright segment, either way round");
        for (int turn = 0; turn < 2; turn++) {
            Sheet sheet = new Sheet();
            sheet.add(0, 0, turn == 0 ? 10 : 20, 0, turn == 0 ? 20 : 10);
            sheet.find(0, 0, -100);
            sheet.find(0, 0, 9);
            sheet.find(201, 0, 10);
            sheet.find(100, 0, 11);
            sheet.find(100, 0, 19);
            sheet.find(201, 0, 20);
            sheet.find(NONE, 0, 21);
            sheet.find(NONE, 1, 0);
            sheet.find(NONE, -1, 0);
        }
        begin("8: two upright ones on one line");
        Sheet two = new Sheet();
        two.add(0, 0, 30, 0, 40);
        two.add(1, 0, 10, 0, 20);
        two.find(1, 0, 0);
        two.find(0, 0, 21);
        two.find(NONE, 0, 41);
        begin("8: two upright ones with a common end");
        two.add(2, 0, 20, 0, 30);
        two.find(1, 0, 9);
        two.find(202, 0, 20);
        two.find(102, 0, 25);
        two.remove(true, 1);
        two.find(2, 0, 19);
        begin("8: an upright one above and one below a slanting one");
        Sheet mixed = new Sheet();
        mixed.add(0, 5, 50, 5, 60);
        mixed.add(1, 0, 20, 9, 22);
        mixed.add(2, 5, 0, 5, 10);
        mixed.find(2, 5, -1);
        mixed.find(1, 5, 11);
        mixed.find(0, 5, 22);
        mixed.find(NONE, 5, 61);
        begin("8: upright ones at the left and right rim");
        Sheet rims = new Sheet();
        rims.add(0, -100, -99, -100, 99);
        rims.add(1, 100, 99, 100, -99);
        rims.find(0, -100, -100);
        rims.find(1, 100, -100);
        rims.find(NONE, -100, 100);
        rims.find(NONE, 100, 100);
        rims.find(NONE, 99, -100);
    }

    private static void findEnds() {
        begin("8: a ray that strikes a left or right end, or goes by it");
        for (int turn = 0; turn < 2; turn++) {
            Sheet sheet = new Sheet();
            if (turn == 0) {
                sheet.add(0, -7, 3, 8, 9);
            } else {
                sheet.add(0, 8, 9, -7, 3);
            }
            sheet.find(0, -7, 2);
            sheet.find(NONE, -8, 2);
            sheet.find(0, 8, 8);
            sheet.find(NONE, 9, 8);
            sheet.find(NONE, -7, 4);
            sheet.find(NONE, 8, 10);
        }
        begin("8: the ends of a steep segment");
        Sheet steep = new Sheet();
        steep.add(0, 0, 0, 1, 10);
        steep.add(1, 2, 10, 3, 0);
        steep.find(0, 0, -1);
        steep.find(0, 1, 9);
        steep.find(0, 1, -100);
        steep.find(NONE, 0, 1);
        steep.find(1, 2, 9);
        steep.find(1, 2, -100);
        steep.find(1, 3, -1);
        steep.find(NONE, 3, 1);
        begin("8: an end is struck before what lies above it, and after what lies below");
        Sheet sheet = new Sheet();
        sheet.add(0, -9, 30, 9, 30);
        sheet.add(1, 0, 20, 9, 25);
        sheet.add(2, -9, 10, 9, 10);
        sheet.find(2, 0, 0);
        sheet.find(1, 0, 11);
        sheet.find(0, 0, 21);
        sheet.find(NONE, 0, 31);
        sheet.find(0, -1, 11);
        begin("8: nothing in the map, and nothing again");
        Sheet empty = new Sheet();
        empty.find(NONE, 0, -100);
        empty.add(0, 0, 0, 1, 0);
        empty.find(0, 0, -100);
        empty.remove(true, 0);
        empty.find(NONE, 0, -100);
    }

    /** Every order of five segments from one vertex, none of which hangs straight down. */
    private static void findLeastNumber() {
        begin("8: the least number of a segment that has the first point");
        int[][] tips = {{0, 60}, {-9, 50}, {9, 50}, {-9, 41}, {9, 30}};
        for (int order = 0; order < 120; order++) {
            List<int[]> left = new ArrayList<>(List.of(tips));
            Sheet sheet = new Sheet();
            int code = order;
            for (int k = 0; k < 5; k++) {
                int[] tip = left.remove(code % left.size());
                code /= left.size() + 1;
                sheet.add(k, 0, 40, tip[0], tip[1]);
            }
            for (int k = 0; k < 5; k++) {
                sheet.find(k, 0, 39);
                sheet.find(205 - k, 0, 40);
                sheet.remove(true, k);
            }
            sheet.find(NONE, 0, 39);
        }
        begin("8: a least number that came back");
        Sheet back = new Sheet();
        back.add(0, 0, 40, 5, 41);
        back.add(1, 0, 40, 5, 42);
        back.remove(true, 0);
        back.find(1, 0, 0);
        back.add(0, -5, 42, 0, 40);
        back.find(0, 0, 0);
        begin("8: one that hangs down is struck alone");
        back.add(2, 0, 40, 0, 30);
        back.find(2, 0, 0);
        back.find(102, 0, 39);
    }

    private static void findFirstPoint() {
        begin("8: first points less than 1 apart, either order of numbers");
        for (int turn = 0; turn < 2; turn++) {
            Sheet sheet = new Sheet();
            sheet.add(0, -1, 1, turn == 0 ? 2 : 1, 2);
            sheet.add(1, -1, 1, turn == 0 ? 1 : 2, 2);
            sheet.find(turn, 0, 0);
            sheet.find(turn, 0, 1);
            sheet.find(NONE, 0, 2);
            sheet.find(0, -1, 0);
            sheet.find(turn, 1, 1);
        }
        begin("8: first points below 0 that are not whole");
        Sheet low = new Sheet();
        low.add(0, -1, -2, 2, -1);
        low.find(0, 0, -2);
        low.find(NONE, 0, -1);
        low.find(0, 1, -2);
        low.find(NONE, 1, -1);
        begin("8: the closest first points that two segments can have");
        Sheet close = new Sheet();
        close.add(0, -100, 100, 100, -99);
        close.add(1, -100, 99, 99, -99);
        close.find(1, 0, -1);
        close.find(1, 98, -99);
        close.find(0, 100, -100);
        close.remove(true, 1);
        close.find(0, 0, -1);
        begin("8: all twenty one above the other");
        Sheet pile = new Sheet();
        for (int k = 0; k < 20; k++) {
            int y = 7 * k % 20;
            pile.add(k, -50, 2 * y, 50, 2 * y + 1);
        }
        for (int k = 0; k < 20; k++) {
            pile.find(k, 0, 2 * (7 * k % 20));
            pile.find(k, -50, 2 * (7 * k % 20) - 1);
        }
        pile.find(NONE, 0, 39);
    }

    // ---- Promise 9

    private static void same() {
        begin("9: false, not from -100 to 100, at each argument");
        Sheet open = new Sheet();
        open.add(0, 0, 0, 1, 0);
        for (int far : NOT_NEARBY) {
            open.same(false, far, 50, 60, 60);
            open.same(false, 60, far, 60, 60);
            open.same(false, 60, 60, far, 50);
            open.same(false, 60, 60, 50, far);
            open.same(false, far, 50, far, 50);
            open.same(false, far, far, far, far);
        }
        begin("9: -100 and 100 at each argument");
        for (int near : JUST_NEARBY) {
            open.same(true, near, 50, 60, 60);
            open.same(true, 60, near, 60, 60);
            open.same(true, near, near, -near, -near);
            open.same(true, near, -near, -near, near);
        }
        begin("9: points that are not free");
        Sheet square = new Sheet().square(0, 0, 10);
        square.same(false, 0, 0, 5, 5);
        square.same(false, 0, 0, 20, 20);
        square.same(false, 5, 0, 5, 5);
        square.same(false, 5, 0, 5, -5);
        square.same(false, 10, 5, 20, 5);
        begin("9: two points that are not free, one and the same too");
        square.same(false, 0, 0, 0, 0);
        square.same(false, 5, 0, 5, 0);
        square.same(false, 0, 0, 10, 10);
        square.same(false, 4, 0, 5, 0);
        begin("9: a free point is in the same face as itself");
        square.same(true, 5, 5, 5, 5);
        square.same(true, -100, -100, -100, -100);
        begin("9: in and out");
        square.same(true, 1, 1, 9, 9);
        square.same(false, 1, 1, -1, -1);
        square.same(true, -1, 5, 11, 5);
        begin("9: points become free again");
        square.remove(true, 0);
        square.same(true, 5, 0, 5, 5);
        square.same(true, 5, 5, 50, 50);
        square.same(false, 0, 0, 5, 5);
        sameThroughGaps();
    }

    private static void sameThroughGaps() {
        begin("9: a way through a gap without a nearby point in it");
        Sheet box = new Sheet();
        box.add(0, 0, 0, 10, 0);
        box.add(1, 10, 0, 10, 10);
        box.add(2, 10, 10, 6, 10);
        box.add(3, 0, 0, 0, 10);
        box.add(4, 0, 10, 5, 10);
        box.same(true, 5, 5, 5, 15);
        box.area(0, 5, 5);
        box.border(10, 5, 5);
        box.add(5, 5, 10, 6, 10);
        box.same(false, 5, 5, 5, 15);
        begin("9: no way through a vertex");
        Sheet pair = new Sheet();
        pair.ring(0, 0, 10, 10, -10, 10);
        pair.ring(0, 0, 10, -10, -10, -10);
        pair.same(false, 0, 5, 0, -5);
        pair.same(true, 5, 0, -5, 0);
        begin("9: round the rim of what is nearby, until it is closed");
        Sheet rim = new Sheet();
        rim.add(0, -100, 0, 100, 0);
        rim.same(true, 0, 1, 0, -1);
        rim.add(1, -100, 0, -100, 100);
        rim.add(2, -100, 100, 100, 100);
        rim.same(true, 0, 1, 0, -1);
        rim.add(3, 100, 100, 100, 0);
        rim.same(false, 0, 1, 0, -1);
        rim.same(true, -100, -100, 100, -1);
        begin("9: rings around one another");
        Sheet nest = nest();
        for (int r = 90; r > 10; r -= 20) {
            nest.same(true, r, 0, -r, r);
            nest.same(false, r, 0, r - 20, 0);
        }
        nest.same(true, 10, 0, 0, 0);
    }

    // ---- Promise 10

    private static void area() {
        begin("10: BAD at each argument, and -100 and 100");
        Sheet sheet = new Sheet().square(0, 0, 10);
        for (int far : NOT_NEARBY) {
            sheet.area(BAD, far, 5);
            sheet.area(BAD, 5, far);
            sheet.area(BAD, far, far);
        }
        for (int near : JUST_NEARBY) {
            sheet.area(0, near, 5);
            sheet.area(0, 5, near);
            sheet.area(0, near, near);
        }
        begin("10: NONE when the point is not free");
        sheet.area(NONE, 0, 0);
        sheet.area(NONE, 10, 10);
        sheet.area(NONE, 5, 0);
        sheet.area(NONE, 10, 9);
        begin("10: 0 when it is not bounded");
        sheet.area(0, 11, 5);
        sheet.area(0, -1, 5);
        sheet.area(0, 5, 11);
        sheet.area(0, 5, -1);
        begin("10: 0 as soon as it is open");
        sheet.area(200, 5, 5);
        sheet.remove(true, 2);
        sheet.area(0, 5, 5);
        begin("10: the least area of a face with a nearby point");
        Sheet least = new Sheet().ring(0, 0, 2, 1, 1, 2);
        least.area(3, 1, 1);
        begin("10: the greatest area");
        Sheet greatest = new Sheet().square(-100, -100, 200);
        greatest.area(80000, 0, 0);
        greatest.area(80000, -99, 99);
        greatest.area(NONE, -100, 100);
        greatest.area(NONE, -100, 0);
        areaHoles();
        areaSpikes();
    }

    private static void areaHoles() {
        begin("10: rings around one another: each without its hole, and no more than that");
        Sheet nest = nest();
        for (int r = 100; r > 0; r -= 20) {
            int hole = r - 20;
            nest.area(8 * r * r - 8 * hole * hole, r - 1, 0);
            nest.area(8 * r * r - 8 * hole * hole, 0, 1 - r);
        }
        begin("10: a hole without a nearby point in it");
        Sheet small = new Sheet().square(0, 0, 10).ring(4, 4, 5, 4, 4, 5);
        small.area(199, 1, 1);
        small.area(199, 4, 3);
        small.counts(7, 7, 2, 3);
        begin("10: two holes, and two with a vertex in common");
        Sheet two = new Sheet().square(0, 0, 40).square(5, 5, 10).square(20, 5, 10);
        two.area(3200 - 400, 1, 1);
        two.ring(30, 15, 38, 15, 38, 23);
        two.area(3200 - 400 - 64, 1, 1);
        two.area(200, 25, 10);
        two.area(64, 37, 17);
        begin("10: a hole that has a vertex of the outer ring");
        Sheet kiss = new Sheet().square(0, 0, 20).ring(0, 0, 8, 4, 4, 8);
        kiss.area(800 - 48, 15, 15);
        kiss.area(48, 4, 4);
        begin("10: a hole that has two vertices of the outer ring is none, it parts the face");
        Sheet parted = new Sheet().square(0, 0, 20).ring(0, 0, 12, 8, 20, 20, 8, 12);
        parted.area(320 - 80 - 80, 10, 10);
        parted.area(800 / 2 - 80, 19, 1);
        parted.area(800 / 2 - 80, 1, 19);
        begin("10: the face without bounds is 0 with holes too");
        parted.area(0, 50, 50);
        small.area(0, 50, 4);
    }

    private static void areaSpikes() {
        begin("10: a segment with the same face on both sides takes nothing");
        Sheet sheet = new Sheet().square(0, 0, 20);
        sheet.add(4, 0, 0, 5, 5);
        sheet.area(800, 10, 10);
        sheet.add(5, 20, 20, 15, 15);
        sheet.area(800, 10, 10);
        sheet.add(6, 9, 3, 11, 3);
        sheet.area(800, 10, 10);
        sheet.add(7, 20, 20, 30, 30);
        sheet.area(800, 10, 10);
        sheet.area(0, 25, 10);
        begin("10: two such segments joined part the face");
        sheet.add(8, 5, 5, 15, 15);
        sheet.area(400, 10, 9);
        sheet.area(400, 9, 10);
        sheet.area(NONE, 10, 10);
        begin("10: a spike in a hole and a chain from hole to ring");
        Sheet chain = new Sheet().square(-20, -20, 40).square(-4, -4, 8);
        chain.add(8, -4, -4, 0, 0);
        chain.area(128, 1, 0);
        chain.area(3200 - 128, 10, 10);
        chain.add(9, 4, 4, 20, 20);
        chain.area(3200 - 128, 10, 9);
        chain.add(10, -4, 4, -20, 20);
        chain.area((3200 - 128) / 4, 0, 10);
        chain.area(3 * (3200 - 128) / 4, 10, 0);
    }

    // ---- Promise 11

    private static void border() {
        begin("11: BAD at each argument, and -100 and 100");
        Sheet sheet = new Sheet().square(0, 0, 10);
        for (int far : NOT_NEARBY) {
            sheet.border(BAD, far, 5);
            sheet.border(BAD, 5, far);
            sheet.border(BAD, far, far);
        }
        for (int near : JUST_NEARBY) {
            sheet.border(4, near, 5);
            sheet.border(4, 5, near);
            sheet.border(4, near, near);
        }
        begin("11: NONE when the point is not free");
        sheet.border(NONE, 0, 0);
        sheet.border(NONE, 10, 0);
        sheet.border(NONE, 5, 0);
        sheet.border(NONE, 0, 9);
        begin("11: 0 of none, 40 of twenty loose ones, and back to 0");
        Sheet fence = new Sheet();
        fence.border(0, 1, 0);
        for (int k = 0; k < 20; k++) {
            fence.add(k, 5 * k - 50, -10, 5 * k - 50, 10);
            fence.border(2 * k + 2, 1, 0);
        }
        for (int k = 0; k < 20; k++) {
            fence.remove(true, k);
            fence.border(38 - 2 * k, 1, 0);
        }
        begin("11: 20 inside a ring of twenty, 20 outside");
        Sheet ring = ladderRim();
        ring.border(20, 4, 2);
        ring.border(20, 50, 50);
        ring.remove(true, 19);
        ring.border(38, 4, 2);
        begin("11: a segment with the same face on both sides counts twice");
        Sheet spike = new Sheet().square(0, 0, 10);
        spike.add(4, 0, 0, 4, 4);
        spike.border(6, 5, 5);
        spike.border(4, 20, 5);
        spike.add(5, 6, 7, 7, 7);
        spike.border(8, 5, 5);
        spike.add(6, 10, 10, 12, 12);
        spike.border(8, 5, 5);
        spike.border(6, 20, 5);
        begin("11: the sides of holes, not what lies in them");
        Sheet nest = nest();
        for (int r = 100; r > 20; r -= 20) {
            nest.border(8, r - 1, 0);
        }
        nest.border(4, 0, 0);
        begin("11: triangles have three");
        Sheet triangles = triangles();
        triangles.border(3, 2, 2);
        triangles.border(3, 5, 6);
        triangles.border(3, 0, -9);
        triangles.border(4, 50, 50);
        begin("11: ring and hole with a vertex in common");
        Sheet kiss = new Sheet().square(0, 0, 20).ring(0, 0, 8, 4, 4, 8);
        kiss.border(7, 15, 15);
        kiss.border(3, 4, 4);
        kiss.border(4, -1, -1);
    }

    // ---- Promise 12

    private static void touches() {
        begin("12: BAD at each argument, whatever k is");
        Sheet sheet = new Sheet().square(0, 0, 10);
        for (int far : NOT_NEARBY) {
            sheet.touches(BAD, far, 5, 0);
            sheet.touches(BAD, 5, far, 0);
            sheet.touches(BAD, far, far, 4);
            sheet.touches(BAD, far, 0, -1);
            sheet.touches(BAD, 0, far, 20);
        }
        begin("12: -100 and 100 at each argument");
        for (int near : JUST_NEARBY) {
            sheet.touches(2, near, 5, 0);
            sheet.touches(1, 5, near, 2);
            sheet.touches(2, near, near, 1);
        }
        begin("12: NONE when the point is not free, whatever k is");
        sheet.touches(NONE, 0, 0, 0);
        sheet.touches(NONE, 5, 0, 0);
        sheet.touches(NONE, 5, 0, 2);
        sheet.touches(NONE, 10, 10, 4);
        sheet.touches(NONE, 10, 5, -1);
        begin("12: NONE when there is no segment k: below 0, above 19");
        for (int k : NO_NUMBER) {
            sheet.touches(NONE, 5, 5, k);
            sheet.touches(NONE, 50, 50, k);
        }
        begin("12: NONE when there is no segment k: never given");
        for (int k = 4; k < 20; k++) {
            sheet.touches(NONE, 5, 5, k);
        }
        begin("12: NONE when there is no segment k: taken away");
        sheet.touches(1, 5, 5, 0);
        sheet.remove(true, 0);
        sheet.touches(NONE, 5, 5, 0);
        begin("12: numbers 0 and 19");
        Sheet fence = fence();
        fence.touches(3, 1, 0, 0);
        fence.touches(3, 1, 0, 19);
        begin("12: on neither side: 0");
        Sheet nest = nest();
        nest.touches(0, 0, 0, 0);
        nest.touches(0, 0, 0, 15);
        nest.touches(1, 0, 0, 16);
        nest.touches(0, 99, 0, 16);
        nest.touches(2, 99, 0, 4);
        touchesEachWay();
        touchesBoth();
    }

    /** A segment, the third corner that makes a triangle of it, a point in this, and its side. */
    private static void touchesEachWay() {
        int[][] rows = {
            {0, 0, 10, 0, 5, 10, 5, 3, 1}, {0, 0, 10, 0, 5, -10, 5, -3, 2},
            {0, 0, 0, 10, -10, 5, -3, 5, 1}, {0, 0, 0, 10, 10, 5, 3, 5, 2},
            {0, 0, 10, 10, 0, 10, 2, 5, 1}, {0, 0, 10, 10, 10, 0, 5, 2, 2},
            {0, 10, 10, 0, 10, 10, 7, 7, 1}, {0, 10, 10, 0, 0, 0, 2, 2, 2},
            {0, 0, 1, 100, -50, 50, -5, 50, 1}, {0, 0, 1, 100, 50, 50, 5, 50, 2},
            {0, 100, 1, 0, 50, 50, 5, 50, 1}, {0, 100, 1, 0, -50, 50, -5, 50, 2},
            {-100, 0, 100, 1, 0, 50, 0, 5, 1}, {-100, 0, 100, 1, 0, -50, 0, -5, 2},
            {0, 0, 0, 10, -10, 0, -1, 1, 1}, {0, 0, 0, 10, 10, 0, 1, 1, 2},
            {0, 0, 0, 10, -10, -5, -1, 1, 1}, {0, 0, 0, 10, 10, -5, 1, 1, 2},
            {0, 0, 0, 10, -10, 10, -1, 9, 1}, {0, 0, 0, 10, 10, 15, 1, 9, 2},
            {0, -100, 0, 100, -100, 0, -1, 0, 1}, {0, -100, 0, 100, 100, 0, 1, 0, 2}};
        for (int[] r : rows) {
            begin("12: the sides of " + r[0] + " " + r[1] + " " + r[2] + " " + r[3] + " from " + r[6] + " " + r[7]);
            for (int turn = 0; turn < 2; turn++) {
                Sheet sheet = new Sheet();
                if (turn == 0) {
                    sheet.add(0, r[0], r[1], r[2], r[3]);
                } else {
                    sheet.add(0, r[2], r[3], r[0], r[1]);
                }
                sheet.add(1, r[0], r[1], r[4], r[5]);
                sheet.touches(3, r[6], r[7], 0);
                sheet.add(2, r[4], r[5], r[2], r[3]);
                sheet.touches(r[8], r[6], r[7], 0);
                sheet.touches(3 - r[8], -90, -90, 0);
                sheet.touches(3 - r[8], 90, 90, 0);
            }
        }
    }

    private static void touchesBoth() {
        begin("12: the same face on both sides: 3");
        Sheet sheet = new Sheet().square(0, 0, 20);
        sheet.add(4, 0, 0, 5, 5);
        sheet.add(5, 10, 12, 10, 15);
        sheet.add(6, 20, 20, 20, 30);
        sheet.touches(3, 10, 10, 4);
        sheet.touches(3, 10, 10, 5);
        sheet.touches(0, 10, 10, 6);
        sheet.touches(0, 50, 50, 4);
        sheet.touches(0, 50, 50, 5);
        sheet.touches(3, 50, 50, 6);
        begin("12: 3 becomes 1 and 2 when the face is parted, and 3 again");
        sheet.add(7, 5, 5, 20, 20);
        sheet.touches(1, 9, 10, 4);
        sheet.touches(2, 10, 9, 4);
        sheet.touches(3, 9, 10, 5);
        sheet.touches(0, 10, 9, 5);
        sheet.remove(true, 7);
        sheet.touches(3, 9, 10, 4);
        begin("12: each side is told to be the border that it is");
        Sheet triangles = triangles();
        int[][] points = {{2, 2}, {-2, 2}, {-2, -2}, {2, -2}, {5, 6}, {-5, 6}, {-5, -6}, {5, -6},
            {0, -9}, {9, 0}, {0, 9}, {-9, 0}, {50, 50}};
        int[] sides = new int[20];
        for (int[] p : points) {
            for (int k = 0; k < 20; k++) {
                int got = triangles.atlas.touches(p[0], p[1], k);
                triangles.calls++;
                due("two faces on one side of " + k + ", which", (sides[k] & got) != 0, false);
                sides[k] |= got;
            }
        }
        for (int k = 0; k < 20; k++) {
            due("the sides of " + k + " that some face borders on", sides[k], 3);
        }
    }

    // ---- Promises 9 to 12 where the way straight up from a point, or from a hole, strikes an end

    private static void facesBelowEnds() {
        belowLooseEnds();
        belowCorners();
        belowFlatTops();
    }

    /** The loose segment has number 0, one of the last ones, or one between. */
    private static void belowLooseEnds() {
        int[][] tips = {{9, 20}, {9, 29}, {1, 40}, {0, 29}, {-1, 40}, {-9, 29}, {-9, 20}, {-9, 11}, {-1, 0},
            {1, 0}, {9, 11}};
        for (int[] tip : tips) {
            begin("9 to 12: below a loose end, its segment goes to " + tip[0] + " " + tip[1]);
            Sheet open = new Sheet();
            open.add(0, 0, 20, tip[0], tip[1]);
            open.area(0, 0, 10);
            open.border(2, 0, 10);
            open.touches(3, 0, 10, 0);
            open.same(true, 0, 10, 90, 90);
            open.square(-50, -50, 100);
            belowLooseEnd(open, 0);
            Sheet late = new Sheet().square(-50, -50, 100);
            late.add(4, tip[0], tip[1], 0, 20);
            belowLooseEnd(late, 4);
        }
    }

    private static void belowLooseEnd(Sheet sheet, int k) {
        sheet.area(20000, 0, 10);
        sheet.border(6, 0, 10);
        sheet.touches(3, 0, 10, k);
        sheet.same(true, 0, 10, 45, -45);
        sheet.same(true, 0, 10, -45, 45);
        sheet.same(false, 0, 10, 60, 0);
        sheet.counts(5, 6, 2, 2);
    }

    /** A square that two segments from (0, 20) to its corners part, and what (0, 10) sees there. */
    private static void belowCorners() {
        // Two corners, twice the area of the face below the vertex, how many sides of the square it has.
        int[][] rows = {
            {-50, 50, 50, 50, 17000, 3}, {-50, -50, 50, -50, 7000, 1},
            {-50, 50, -50, -50, 15000, 3}, {50, -50, 50, 50, 15000, 3},
            {-50, -50, 50, 50, 12000, 2}, {50, -50, -50, 50, 12000, 2}};
        for (int[] r : rows) {
            for (int turn = 0; turn < 4; turn++) {
                begin("9 to 12: below a vertex that is joined with " + r[0] + " " + r[1] + " and " + r[2] + " " + r[3]);
                int i = turn % 2 == 0 ? 0 : 2;
                Sheet sheet = new Sheet();
                if (turn >= 2) {
                    sheet.square(-50, -50, 100);
                }
                sheet.add(turn < 2 ? 0 : 4, 0, 20, r[i], r[i + 1]);
                sheet.add(turn < 2 ? 1 : 5, r[2 - i], r[3 - i], 0, 20);
                if (turn < 2) {
                    sheet.square(-50, -50, 100);
                }
                belowCorner(sheet, r[4], r[5] + 2);
            }
        }
    }

    private static void belowCorner(Sheet sheet, int area, int sides) {
        sheet.counts(6, 5, 1, 3);
        sheet.area(area, 0, 10);
        sheet.border(sides, 0, 10);
        begin(test + ", and a hole there");
        sheet.ring(0, 8, -2, 4, 2, 4);
        sheet.counts(9, 8, 2, 4);
        sheet.area(area - 16, 0, 10);
        sheet.area(area - 16, 0, 0);
        sheet.area(16, 0, 5);
        sheet.border(sides + 3, 0, 10);
        sheet.border(3, 0, 5);
        sheet.same(true, 0, 10, 0, 0);
        sheet.same(false, 0, 10, 0, 5);
        begin(test + " on a stem");
        sheet.add(9, 0, 8, 0, 12);
        sheet.area(area - 16, 1, 10);
        sheet.area(NONE, 0, 10);
        sheet.border(sides + 5, -1, 10);
        sheet.add(10, 0, 12, 0, 20);
        sheet.counts(11, 9, 1, 4);
        sheet.area(area - 16, 1, 10);
        sheet.border(sides + 7, -1, 10);
        sheet.same(true, -1, 10, 1, 10);
    }

    private static void belowFlatTops() {
        for (int shift = -30; shift <= 30; shift += 10) {
            begin("9 to 12: a hole with a flat top, shifted by " + shift);
            Sheet sheet = new Sheet().square(-50, -50, 100);
            sheet.ring(shift, 0, shift + 9, 0, shift + 9, -5, shift, -5);
            sheet.area(20000 - 90, -49, 0);
            sheet.area(90, shift + 1, -1);
            sheet.border(8, -49, 0);
            sheet.same(true, shift + 1, 1, shift + 1, -6);
            begin("9 to 12: a hole under that hole");
            sheet.ring(shift + 4, -20, shift + 9, -30, shift, -30);
            sheet.area(20000 - 90 - 90, -49, 0);
            sheet.border(11, shift + 4, -10);
            sheet.touches(1, shift + 4, -10, 8);
            begin("9 to 12: a hole under that side by side with it");
            sheet.ring(shift + 9, -40, shift + 10, -45, shift, -45);
            sheet.area(20000 - 90 - 90 - 50, 49, 49);
            sheet.border(14, shift + 9, -35);
            sheet.counts(14, 14, 4, 5);
        }
    }

    // ---- The length of a run

    private static void longRuns() {
        begin("512 calls: one segment comes and goes");
        Sheet sheet = new Sheet();
        for (int i = 0; i < 256; i++) {
            sheet.add(0, -100, -100, 100, i % 201 - 100);
            sheet.remove(true, 0);
        }
        due("calls", sheet.calls, CALLS);
        begin("512 calls: always full, one goes and comes");
        Sheet full = fence();
        for (int i = 0; i < 246; i++) {
            int k = 7 * i % 20;
            full.remove(true, k);
            full.add(k, 5 * k - 50, 10, 5 * k - 50, -10 - i % 50);
        }
        due("calls", full.calls, CALLS);
        begin("512 calls: refused adds");
        Sheet refused = fence();
        while (refused.calls < CALLS - 4) {
            refused.add(refused.calls % 2 == 0 ? FULL : BAD, 0, 0, 0, refused.calls % 2 == 0 ? 100 : 101);
        }
        refused.counts(20, 40, 20, 1);
        begin("512 calls: refused removes");
        Sheet kept = new Sheet().square(0, 0, 10);
        while (kept.calls < CALLS - 4) {
            kept.remove(false, kept.calls % 2 == 0 ? kept.calls : -kept.calls);
        }
        kept.counts(4, 4, 1, 2);
        longQueries();
        longMeetings();
        longBuilding();
    }

    private static void longQueries() {
        for (int kind = 0; kind < 8; kind++) {
            begin("512 calls: question " + kind + " always has the same answer");
            Sheet sheet = nest();
            while (sheet.calls < CALLS - 4) {
                switch (kind) {
                    case 0 -> sheet.counts(20, 20, 5, 6);
                    case 1 -> sheet.find(18, 0, 0);
                    case 2 -> sheet.find(202, 100, 100);
                    case 3 -> sheet.same(true, 0, 0, 19, 19);
                    case 4 -> sheet.same(false, 0, 0, 21, 0);
                    case 5 -> sheet.area(80000 - 51200, 99, 0);
                    case 6 -> sheet.border(8, 0, -50);
                    default -> sheet.touches(2, 0, 10, 18);
                }
            }
            while (sheet.calls < CALLS) {
                sheet.area(3200, 0, 0);
            }
        }
    }

    private static void longMeetings() {
        begin("512 calls: refused for meetings, and the number is still the next one");
        Sheet sheet = new Sheet();
        sheet.add(0, -100, 0, 100, 0);
        while (sheet.calls < CALLS - 1) {
            int x = sheet.calls % 201 - 100;
            sheet.add(-10, x, -1, -x, 1);
        }
        sheet.add(1, -100, -1, 100, -1);
        due("calls", sheet.calls, CALLS);
    }

    private static void longBuilding() {
        begin("512 calls: squares are built and taken down");
        Sheet sheet = new Sheet();
        while (sheet.calls + 16 <= CALLS) {
            int size = 2 + sheet.calls % 50;
            for (int k = 0; k < 4; k++) {
                int x = k == 1 || k == 2 ? size : 0;
                int y = k >= 2 ? size : 0;
                int u = k <= 1 ? size : 0;
                int v = k == 1 || k == 2 ? size : 0;
                sheet.add(k, x, y, u, v);
            }
            sheet.counts(4, 4, 1, 2);
            sheet.area(2 * size * size, 1, 1);
            sheet.border(4, 1, 1);
            sheet.touches(1, 1, 1, 0);
            sheet.find(2, 1, 1);
            for (int k = 0; k < 4; k++) {
                sheet.remove(true, k);
            }
        }
        due("calls", sheet.calls, CALLS);
    }
}
