import java.lang.reflect.Constructor;
import java.lang.reflect.Field;
import java.lang.reflect.Method;
import java.lang.reflect.Modifier;
import java.util.Set;
import java.util.TreeSet;

/** Each promise of the document by hand: ordinary inputs, the edges it names, and wrong inputs. */
public final class PromisesTest {
    private static final int[] OUT_OF_REACH = {
        101, -101, 102, 1000, 65536, Integer.MAX_VALUE, Integer.MIN_VALUE, Integer.MIN_VALUE + 100};
    private static final int[] NO_NUMBERS = {-1, 20, 21, 40, -20, Integer.MAX_VALUE, Integer.MIN_VALUE};

    private static int wrong = 0;

    private static void due(String what, Object got, Object want) {
        if (!want.equals(got)) {
            wrong++;
            System.out.println(what + " answered " + got + ", due is " + want);
        }
    }

    public static void main(String[] args) {
        theFace();
        aNewObject();
        addAnswersLeastNumber();
        addRefusesBad();
        addRefusesFull();
        addRefusesMeetings();
        addTellsLeastMeeting();
        refusedAddChangesNothing();
        removeKeepsNumbers();
        removeOfNone();
        verticesAndParts();
        partsSplitAndMerge();
        facesAreCounted();
        findOnThings();
        findBelowThings();
        findWrongInputs();
        sameFaces();
        areas();
        areasOfHoles();
        borders();
        touchedSides();
        touchesWrongInputs();
        peaksBelowVertices();
        objectsAreApart();
        fullBoard();
        System.out.println(wrong == 0 ? "all promises hold" : wrong + " answers are not as due");
        if (wrong != 0) {
            System.exit(1);
        }
    }

    /** Adds a closed line through the points given as x, y, x, y ... */
    private static void ring(FaceAtlas atlas, int... points) {
        int n = points.length;
        for (int i = 0; i < n; i += 2) {
            int got = atlas.add(points[i], points[i + 1], points[(i + 2) % n], points[(i + 3) % n]);
            due("add of a ring's segment is not refused, it", got >= 0, true);
        }
    }

    private static FaceAtlas square() {
        FaceAtlas atlas = new FaceAtlas();
        ring(atlas, 0, 0, 10, 0, 10, 10, 0, 10);
        return atlas;
    }

    private static void theFace() {
        due("final class", Modifier.isFinal(FaceAtlas.class.getModifiers()), true);
        Set<String> got = new TreeSet<>();
        for (Field f : FaceAtlas.class.getDeclaredFields()) {
            if (!Modifier.isPrivate(f.getModifiers())) {
                got.add(f.getName());
            }
        }
        for (Constructor<?> c : FaceAtlas.class.getDeclaredConstructors()) {
            got.add("new/" + c.getParameterCount());
        }
        Set<String> publicNames = new TreeSet<>();
        for (Method m : FaceAtlas.class.getDeclaredMethods()) {
            if (!Modifier.isPrivate(m.getModifiers())) {
                got.add(m.getReturnType() + " " + m.getName() + "/" + m.getParameterCount());
                publicNames.add(m.getName());
            }
        }
        for (Method m : FaceAtlas.class.getDeclaredMethods()) {
            if (Modifier.isPrivate(m.getModifiers())) {
                due("private method with a public name: " + m.getName(),
                    publicNames.contains(m.getName()), false);
            }
        }
        due("face", got.toString(), "[BAD, FULL, INSIDE, NONE, VERTEX, boolean remove/1, boolean same/4, "
            + "int add/4, int area/2, int border/2, int faces/0, int find/2, int parts/0, "
            + "int segments/0, int touches/3, int vertices/0, new/0]");
        due("NONE", FaceAtlas.NONE, -1);
        due("BAD", FaceAtlas.BAD, -2);
        due("FULL", FaceAtlas.FULL, -3);
        due("INSIDE", FaceAtlas.INSIDE, 100);
        due("VERTEX", FaceAtlas.VERTEX, 200);
    }

    private static void aNewObject() {
        FaceAtlas atlas = new FaceAtlas();
        due("1 segments", atlas.segments(), 0);
        due("1 vertices", atlas.vertices(), 0);
        due("1 parts", atlas.parts(), 0);
        due("1 faces", atlas.faces(), 1);
        due("1 find", atlas.find(100, -100), -1);
        due("1 same", atlas.same(-100, 100, 100, -100), true);
        due("1 area", atlas.area(0, 0), 0);
        due("1 border", atlas.border(0, 0), 0);
        due("1 touches", atlas.touches(0, 0, 0), -1);
        due("1 remove", atlas.remove(0), false);
    }

    private static void addAnswersLeastNumber() {
        FaceAtlas atlas = new FaceAtlas();
        for (int k = 0; k < 20; k++) {
            due("2 add in order", atlas.add(k, 0, k, 1), k);
        }
        atlas.remove(13);
        atlas.remove(4);
        atlas.remove(0);
        due("2 least hole", atlas.add(50, 0, 60, 0), 0);
        due("2 next hole", atlas.add(50, 1, 60, 1), 4);
        due("2 last hole", atlas.add(50, 2, 60, 2), 13);
        due("2 full again", atlas.add(50, 3, 60, 3), -3);
    }

    private static void addRefusesBad() {
        FaceAtlas atlas = new FaceAtlas();
        for (int far : OUT_OF_REACH) {
            due("2 x " + far, atlas.add(far, 0, 1, 1), -2);
            due("2 y " + far, atlas.add(0, far, 1, 1), -2);
            due("2 u " + far, atlas.add(0, 0, far, 1), -2);
            due("2 v " + far, atlas.add(0, 0, 1, far), -2);
            due("2 both ends far", atlas.add(far, far, far, far), -2);
        }
        due("2 one point", atlas.add(7, -7, 7, -7), -2);
        due("2 nothing added", atlas.segments(), 0);
        due("2 corners", atlas.add(-100, -100, 100, 100), 0);
        due("2 bad before meeting", atlas.add(0, 0, 0, 0), -2);
        due("2 bad before meeting, far", atlas.add(-100, -100, 101, 101), -2);
    }

    private static void addRefusesFull() {
        FaceAtlas atlas = new FaceAtlas();
        for (int k = 0; k < 20; k++) {
            atlas.add(k, 0, k, 1);
        }
        due("2 full", atlas.add(50, 50, 60, 60), -3);
        due("2 full before meeting", atlas.add(0, 0, 0, 1), -3);
        due("2 bad before full", atlas.add(0, 0, 0, 0), -2);
        due("2 bad before full, far", atlas.add(0, 0, 0, 101), -2);
        due("2 still twenty", atlas.segments(), 20);
        due("3 remove 19", atlas.remove(19), true);
        due("2 room again", atlas.add(50, 50, 60, 60), 19);
    }

    private static void meeting(String what, int[] one, int[] other, boolean meet) {
        for (int turn = 0; turn < 8; turn++) {
            int[] p = (turn & 1) == 0 ? one : other;
            int[] q = (turn & 1) == 0 ? other : one;
            int i = (turn & 2) == 0 ? 0 : 2;
            int j = (turn & 4) == 0 ? 0 : 2;
            FaceAtlas atlas = new FaceAtlas();
            atlas.add(p[i], p[i + 1], p[2 - i], p[3 - i]);
            int got = atlas.add(q[j], q[j + 1], q[2 - j], q[3 - j]);
            due("2 " + what, got, meet ? -10 : 1);
            due("2 segments after " + what, atlas.segments(), meet ? 1 : 2);
        }
    }

    private static void addRefusesMeetings() {
        meeting("cross", new int[] {0, 0, 10, 10}, new int[] {0, 10, 10, 0}, true);
        meeting("cross off the whole points", new int[] {0, 0, 1, 1}, new int[] {0, 1, 1, 0}, true);
        meeting("upright cross", new int[] {0, -5, 0, 5}, new int[] {-5, 0, 5, 0}, true);
        meeting("wide cross", new int[] {-100, -100, 100, 100}, new int[] {-100, 100, 100, -100}, true);
        meeting("slim cross", new int[] {-100, 0, 100, 1}, new int[] {-99, 1, 100, 0}, true);
        meeting("slim miss", new int[] {-100, 0, 99, 1}, new int[] {100, 1, -99, 0}, false);
        meeting("end in the inside", new int[] {0, 0, 10, 0}, new int[] {4, 0, 4, 7}, true);
        meeting("end in an upright inside", new int[] {3, 0, 3, 9}, new int[] {3, 5, 8, 5}, true);
        meeting("end in a slanting inside", new int[] {0, 0, 6, 3}, new int[] {2, 1, 2, -4}, true);
        meeting("same ends", new int[] {0, 0, 3, 1}, new int[] {0, 0, 3, 1}, true);
        meeting("same short ends", new int[] {0, 0, 1, 0}, new int[] {0, 0, 1, 0}, true);
        meeting("same upright ends", new int[] {2, 0, 2, 1}, new int[] {2, 0, 2, 1}, true);
        meeting("overlap", new int[] {0, 0, 4, 4}, new int[] {2, 2, 6, 6}, true);
        meeting("held", new int[] {0, 0, 6, 6}, new int[] {2, 2, 4, 4}, true);
        meeting("held from one end", new int[] {0, 0, 6, 6}, new int[] {0, 0, 4, 4}, true);
        meeting("upright overlap", new int[] {0, 0, 0, 4}, new int[] {0, 2, 0, 6}, true);
        meeting("upright held from one end", new int[] {0, 0, 0, 4}, new int[] {0, 0, 0, 3}, true);
        meeting("common end", new int[] {0, 0, 4, 4}, new int[] {4, 4, 9, 0}, false);
        meeting("common end, straight on", new int[] {0, 0, 4, 4}, new int[] {4, 4, 9, 9}, false);
        meeting("common end, upright on", new int[] {1, 0, 1, 4}, new int[] {1, 4, 1, 5}, false);
        meeting("same line, apart", new int[] {0, 0, 1, 1}, new int[] {2, 2, 3, 3}, false);
        meeting("same upright line, apart", new int[] {0, 0, 0, 1}, new int[] {0, 2, 0, 3}, false);
        meeting("side by side", new int[] {0, 0, 5, 5}, new int[] {0, 1, 5, 6}, false);
        meeting("the line hits, not the segment", new int[] {0, 0, 10, 0}, new int[] {5, 1, 5, 9}, false);
        meeting("end on the line, outside", new int[] {0, 0, 10, 0}, new int[] {11, 0, 12, 5}, false);
        meeting("slanting near miss", new int[] {0, 0, 3, 2}, new int[] {1, 1, 2, 2}, false);
    }

    private static void addTellsLeastMeeting() {
        FaceAtlas atlas = new FaceAtlas();
        for (int k = 0; k < 20; k++) {
            atlas.add(-50 + k, -10, -50 + k, 10);
        }
        atlas.remove(3);
        due("2 all are met", atlas.add(-90, 0, 90, 0), -10);
        due("2 from 5 on", atlas.add(90, 0, -45, 0), -15);
        due("2 the last alone", atlas.add(-31, 0, 0, 0), -29);
        due("2 the gap", atlas.add(-47, 0, -46, 0), -14);
        due("2 inside the gap", atlas.add(-47, 0, -47, 5), 3);
        due("2 last end", atlas.add(-31, 10, 0, 0), -3);
    }

    private static void refusedAddChangesNothing() {
        FaceAtlas atlas = square();
        atlas.remove(1);
        due("2 meets 0", atlas.add(10, 10, 9, 0), -10);
        due("2 number 1 is free still", atlas.touches(5, 5, 1), -1);
        due("2 segments", atlas.segments(), 3);
        due("2 vertices", atlas.vertices(), 4);
        due("2 parts", atlas.parts(), 1);
        due("2 faces", atlas.faces(), 1);
        due("2 border", atlas.border(5, 5), 6);
        due("2 find", atlas.find(9, 0), 100);
        due("2 the number is given", atlas.add(10, 0, 10, 10), 1);
        due("2 closed", atlas.area(5, 5), 200);
        due("2 refused when closed", atlas.add(0, 0, 10, 0), -10);
        due("2 area stays", atlas.area(5, 5), 200);
    }

    private static void removeKeepsNumbers() {
        FaceAtlas atlas = square();
        due("3 remove", atlas.remove(1), true);
        due("3 segments", atlas.segments(), 3);
        due("3 others keep numbers", atlas.find(5, 5), 2);
        due("3 gone", atlas.find(10, 5), 2);
        due("3 no second time", atlas.remove(1), false);
        due("3 open", atlas.same(5, 5, 50, 5), true);
        due("3 end left", atlas.find(10, 10), 201);
        due("3 others", atlas.remove(0) && atlas.remove(2) && atlas.remove(3), true);
        due("3 empty", atlas.segments() + atlas.vertices() + atlas.parts(), 0);
        due("3 empty faces", atlas.faces(), 1);
        due("3 new again", atlas.add(0, 0, 1, 0), 0);
    }

    private static void removeOfNone() {
        FaceAtlas atlas = square();
        for (int k : NO_NUMBERS) {
            due("3 remove " + k, atlas.remove(k), false);
        }
        due("3 remove 4", atlas.remove(4), false);
        due("3 remove 19", atlas.remove(19), false);
        due("3 segments", atlas.segments(), 4);
    }

    private static void verticesAndParts() {
        FaceAtlas atlas = new FaceAtlas();
        atlas.add(0, 0, 5, 0);
        due("5 two ends", atlas.vertices(), 2);
        due("6 one part", atlas.parts(), 1);
        atlas.add(0, 0, 0, 5);
        due("5 a common end", atlas.vertices(), 3);
        due("6 joined", atlas.parts(), 1);
        atlas.add(7, 7, 9, 7);
        due("5 apart", atlas.vertices(), 5);
        due("6 apart", atlas.parts(), 2);
        atlas.add(5, 0, 7, 7);
        due("5 bridge", atlas.vertices(), 5);
        due("6 bridge", atlas.parts(), 1);
        due("4 segments", atlas.segments(), 4);
        atlas.remove(0);
        due("5 ends stay by the others", atlas.vertices(), 5);
        due("6 parted", atlas.parts(), 2);
        atlas.remove(1);
        due("5 ends go", atlas.vertices(), 3);
    }

    private static void partsSplitAndMerge() {
        FaceAtlas atlas = new FaceAtlas();
        for (int k = 0; k < 10; k++) {
            atlas.add(4 * k, 0, 4 * k + 2, 0);
            due("6 parts", atlas.parts(), k + 1);
        }
        for (int k = 8; k >= 0; k--) {
            atlas.add(4 * k + 2, 0, 4 * k + 4, 0);
            due("6 merged", atlas.parts(), k + 1);
        }
        due("5 chain", atlas.vertices(), 20);
        atlas.remove(5);
        due("6 cut", atlas.parts(), 2);
        FaceAtlas nest = new FaceAtlas();
        ring(nest, -9, -9, 9, -9, 9, 9, -9, 9);
        ring(nest, -5, -5, 5, -5, 5, 5, -5, 5);
        ring(nest, -1, -1, 1, -1, 1, 1, -1, 1);
        due("6 nested rings are parts", nest.parts(), 3);
        nest.add(-9, -9, -5, -5);
        due("6 one link", nest.parts(), 2);
        due("7 a link makes no face", nest.faces(), 4);
        nest.add(9, 9, 5, 5);
        due("7 a second link does", nest.faces(), 5);
    }

    private static void facesAreCounted() {
        FaceAtlas atlas = new FaceAtlas();
        atlas.add(0, 0, 10, 0);
        due("7 a segment alone", atlas.faces(), 1);
        atlas.add(10, 0, 5, 8);
        due("7 an angle", atlas.faces(), 1);
        atlas.add(5, 8, 0, 0);
        due("7 a triangle", atlas.faces(), 2);
        atlas.add(5, 3, 0, 0);
        due("7 a spike", atlas.faces(), 2);
        atlas.add(5, 3, 10, 0);
        due("7 cut in two", atlas.faces(), 3);
        atlas.add(5, 8, 5, 3);
        due("7 cut in three", atlas.faces(), 4);
        ring(atlas, 0, 0, -10, 0, -5, -5);
        due("7 a ring on a vertex", atlas.faces(), 5);
        ring(atlas, 50, 50, 60, 50, 60, 60);
        due("7 a ring apart", atlas.faces(), 6);
        atlas.remove(0);
        due("7 opened", atlas.faces(), 5);
    }

    private static void findOnThings() {
        FaceAtlas atlas = new FaceAtlas();
        for (int k = 0; k < 20; k++) {
            due("8 spoke", atlas.add(0, 0, k - 10, 40), k);
            due("8 so many ends", atlas.find(0, 0), 201 + k);
        }
        due("8 one end", atlas.find(9, 40), 201);
        due("8 in the last", atlas.find(0, 20), 110);
        due("8 in the first", atlas.find(-5, 20), 100);
        due("8 in number 18", atlas.find(2, 10), 118);
        due("8 between", atlas.find(1, 11), 13);
        atlas.remove(10);
        due("8 one less", atlas.find(0, 0), 219);
        due("8 nothing here", atlas.find(0, 20), -1);
        due("8 nothing there either", atlas.find(0, 40), -1);
    }

    private static void findBelowThings() {
        FaceAtlas atlas = new FaceAtlas();
        atlas.add(-10, 20, 10, 20);
        atlas.add(-10, 10, 10, 11);
        atlas.add(-10, 9, 10, 10);
        due("8 the lowest", atlas.find(0, 0), 2);
        due("8 between two", atlas.find(-9, 10), 1);
        due("8 first point, not a whole one", atlas.find(1, 10), 1);
        due("8 below the top", atlas.find(3, 15), 0);
        due("8 above all", atlas.find(3, 21), -1);
        due("8 below a left end", atlas.find(-10, 0), 2);
        due("8 below a right end", atlas.find(10, 0), 2);
        due("8 beside", atlas.find(11, 0), -1);
        due("8 beside, left", atlas.find(-11, 0), -1);
        FaceAtlas upright = new FaceAtlas();
        upright.add(0, 30, 0, 20);
        upright.add(-5, 10, 5, 12);
        upright.add(0, 20, 8, 20);
        due("8 slanting first", upright.find(0, 0), 1);
        due("8 upright from below, least number", upright.find(0, 15), 0);
        due("8 above the upright", upright.find(0, 31), -1);
        due("8 in the upright", upright.find(0, 25), 100);
        upright.remove(0);
        due("8 the other one with that end", upright.find(0, 15), 2);
        upright.add(0, 20, 0, 30);
        due("8 number 0 again", upright.find(0, 15), 0);
        FaceAtlas close = new FaceAtlas();
        close.add(-100, 0, 100, 1);
        close.add(-100, -1, 99, 0);
        due("8 close ones", close.find(99, -1), 1);
        due("8 close ones, end", close.find(100, -1), 0);
        due("8 between close ones", close.find(0, 0), 0);
    }

    private static void findWrongInputs() {
        FaceAtlas atlas = square();
        for (int far : OUT_OF_REACH) {
            due("8 x " + far, atlas.find(far, 5), -2);
            due("8 y " + far, atlas.find(5, far), -2);
            due("9 x " + far, atlas.same(far, 5, 50, 50), false);
            due("9 y " + far, atlas.same(50, far, 50, 50), false);
            due("9 u " + far, atlas.same(50, 50, far, 5), false);
            due("9 v " + far, atlas.same(50, 50, 50, far), false);
            due("9 far twice", atlas.same(far, far, far, far), false);
            due("10 x " + far, atlas.area(far, 5), -2);
            due("10 y " + far, atlas.area(5, far), -2);
            due("11 x " + far, atlas.border(far, 0), -2);
            due("11 y " + far, atlas.border(0, far), -2);
        }
        due("8 corner", atlas.find(100, 100), -1);
        due("8 other corner", atlas.find(-100, -100), -1);
    }

    private static void sameFaces() {
        FaceAtlas atlas = square();
        due("9 inside", atlas.same(1, 1, 9, 9), true);
        due("9 one point", atlas.same(1, 1, 1, 1), true);
        due("9 through a side", atlas.same(5, 5, 5, 11), false);
        due("9 around", atlas.same(-1, 5, 11, 5), true);
        due("9 corner to corner", atlas.same(-100, -100, 100, 100), true);
        due("9 on a vertex", atlas.same(0, 0, 5, 5), false);
        due("9 on an inside", atlas.same(5, 5, 5, 0), false);
        due("9 one vertex twice", atlas.same(0, 0, 0, 0), false);
        due("9 one inside twice", atlas.same(5, 0, 5, 0), false);
        FaceAtlas edge = new FaceAtlas();
        edge.add(-100, 0, 100, 0);
        due("9 round the rim of what is nearby", edge.same(0, 1, 0, -1), true);
        edge.add(100, 0, 0, -100);
        edge.add(0, -100, -100, 0);
        due("9 closed", edge.same(0, 1, 0, -1), false);
        due("9 closed corners", edge.same(0, 1, 100, -100), true);
        FaceAtlas point = new FaceAtlas();
        ring(point, 0, 0, 10, 10, 0, 20, -10, 10);
        ring(point, 0, 20, 10, 30, 0, 40, -10, 30);
        due("9 no way through a vertex", point.same(0, 10, 0, 30), false);
        due("9 left and right of it", point.same(-5, 20, 5, 20), true);
    }

    private static void areas() {
        FaceAtlas atlas = new FaceAtlas();
        ring(atlas, -100, -100, 100, -100, 100, 100, -100, 100);
        due("10 the greatest", atlas.area(0, 0), 80000);
        due("10 a corner is not free", atlas.area(100, 100), -1);
        due("10 a rim is not free", atlas.area(100, 99), -1);
        FaceAtlas odd = new FaceAtlas();
        ring(odd, 0, 0, 3, 0, 0, 3);
        due("10 odd double area", odd.area(1, 1), 9);
        due("10 no bound", odd.area(3, 3), 0);
        odd.add(0, 3, 1, 1);
        due("10 a spike takes nothing", odd.area(0, 1), -1);
        due("10 its tip is not free", odd.area(1, 1), -1);
        FaceAtlas bent = new FaceAtlas();
        ring(bent, -10, -10, 10, -10, 10, 10, 0, 0, -10, 10);
        due("10 bent", bent.area(0, -5), 600);
        due("10 in the bay", bent.area(0, 5), 0);
        bent.add(-10, 10, 10, 10);
        due("10 the bay closed", bent.area(0, 5), 200);
        due("10 below as before", bent.area(0, -5), 600);
    }

    private static void areasOfHoles() {
        FaceAtlas atlas = new FaceAtlas();
        ring(atlas, -90, -90, 90, -90, 90, 90, -90, 90);
        ring(atlas, -50, -50, -50, 50, 50, 50, 50, -50);
        ring(atlas, -10, -10, 10, -10, 0, 10);
        ring(atlas, 60, 60, 70, 60, 60, 70);
        due("10 ring", atlas.area(0, 80), 64800 - 20000 - 100);
        due("10 ring, from below", atlas.area(0, -80), 64800 - 20000 - 100);
        due("10 ring, below the small hole", atlas.area(60, 0), 64800 - 20000 - 100);
        due("10 middle", atlas.area(40, 40), 20000 - 400);
        due("10 middle, below the inmost", atlas.area(0, -20), 20000 - 400);
        due("10 inmost", atlas.area(0, 0), 400);
        due("10 small hole", atlas.area(61, 61), 100);
        due("7 faces", atlas.faces(), 5);
        due("11 ring", atlas.border(0, 80), 11);
        due("11 middle", atlas.border(40, 40), 7);
        due("11 inmost", atlas.border(0, 0), 3);
        due("11 outside", atlas.border(95, 0), 4);
        atlas.add(90, 90, 100, 100);
        due("11 outside with a spike", atlas.border(95, 0), 6);
        atlas.add(-10, -10, -20, -10);
        due("10 a spike in the middle", atlas.area(40, 40), 20000 - 400);
        due("11 a spike in the middle", atlas.border(40, 40), 9);
        FaceAtlas kiss = new FaceAtlas();
        ring(kiss, 0, 0, 20, 0, 20, 20, 0, 20);
        ring(kiss, 0, 0, 4, 8, 8, 4);
        due("10 a hole on a vertex", kiss.area(15, 15), 800 - 48);
        due("10 in it", kiss.area(4, 4), 48);
        due("11 around it", kiss.border(15, 15), 7);
    }

    private static void borders() {
        FaceAtlas atlas = new FaceAtlas();
        atlas.add(0, 0, 10, 5);
        due("11 both sides", atlas.border(50, 50), 2);
        due("11 on the inside", atlas.border(2, 1), -1);
        due("11 on the end", atlas.border(0, 0), -1);
        atlas.add(10, 5, 20, 0);
        due("11 four sides", atlas.border(50, 50), 4);
        atlas.add(20, 0, 0, 0);
        due("11 in", atlas.border(10, 2), 3);
        due("11 out", atlas.border(50, 50), 3);
        atlas.add(8, 2, 12, 2);
        due("11 one adrift", atlas.border(10, 1), 5);
        atlas.remove(0);
        due("11 open", atlas.border(10, 1), 6);
    }

    private static void touchedSides() {
        int[][] ends = {{0, 0, 10, 0}, {10, 0, 10, 10}, {10, 10, 0, 10}, {0, 10, 0, 0}};
        int[] in = {1, 1, 2, 2};
        for (int way = 0; way < 2; way++) {
            FaceAtlas atlas = new FaceAtlas();
            for (int[] e : ends) {
                if (way == 0) {
                    atlas.add(e[0], e[1], e[2], e[3]);
                } else {
                    atlas.add(e[2], e[3], e[0], e[1]);
                }
            }
            for (int k = 0; k < 4; k++) {
                due("12 in, " + k, atlas.touches(5, 5, k), in[k]);
                due("12 out, " + k, atlas.touches(-5, 5, k), 3 - in[k]);
            }
            atlas.add(3, 3, 4, 6);
            due("12 adrift", atlas.touches(5, 5, 4), 3);
            due("12 adrift, from out", atlas.touches(-5, 5, 4), 0);
            atlas.remove(0);
            due("12 opened", atlas.touches(5, 5, 1), 3);
        }
        FaceAtlas slant = new FaceAtlas();
        ring(slant, 0, 0, 10, 10, -10, 10);
        due("12 rising, its upper side", slant.touches(0, 5, 0), 1);
        due("12 level, its lower side", slant.touches(0, 5, 1), 2);
        due("12 falling, its upper side", slant.touches(0, 5, 2), 1);
        due("12 rising, from out", slant.touches(9, 0, 0), 2);
    }

    private static void touchesWrongInputs() {
        FaceAtlas atlas = square();
        for (int far : OUT_OF_REACH) {
            due("12 x " + far, atlas.touches(far, 5, 0), -2);
            due("12 y " + far, atlas.touches(5, far, 0), -2);
            due("12 bad before none", atlas.touches(5, far, 30), -2);
        }
        for (int k : NO_NUMBERS) {
            due("12 k " + k, atlas.touches(5, 5, k), -1);
            due("12 k, not free " + k, atlas.touches(0, 0, k), -1);
        }
        due("12 on a vertex", atlas.touches(0, 0, 0), -1);
        due("12 on an inside", atlas.touches(5, 0, 0), -1);
        due("12 no segment", atlas.touches(5, 5, 4), -1);
        atlas.remove(0);
        due("12 removed", atlas.touches(5, 5, 0), -1);
    }

    /** The ray up from a hole, or from a point, may strike a vertex where several faces come together. */
    private static void peaksBelowVertices() {
        FaceAtlas atlas = new FaceAtlas();
        ring(atlas, -20, 0, 20, 0, 20, 20, -20, 20);
        atlas.add(0, 15, -20, 20);
        atlas.add(0, 15, 20, 20);
        atlas.add(0, 15, 0, 17);
        ring(atlas, 0, 10, -2, 6, 2, 6);
        due("10 hole below a vertex", atlas.area(-10, 10), 1600 - 200 - 16);
        due("10 just below the vertex", atlas.area(0, 13), 1600 - 200 - 16);
        due("11 just below the vertex", atlas.border(0, 13), 3 + 2 + 3);
        due("10 above it", atlas.area(0, 18), 200);
        due("11 above it", atlas.border(0, 18), 5);
        FaceAtlas flat = new FaceAtlas();
        ring(flat, -20, 0, 20, 0, 20, 20, -20, 20);
        flat.add(-5, 5, 0, 5);
        flat.add(0, 5, 5, 5);
        flat.add(0, 5, 0, 1);
        due("11 level peak", flat.border(0, 10), 10);
        due("10 level peak", flat.area(1, 3), 1600);
        due("9 both sides of the stem", flat.same(-1, 3, 1, 3), true);
    }

    private static void objectsAreApart() {
        FaceAtlas one = square();
        FaceAtlas other = new FaceAtlas();
        due("1 another new object", other.segments(), 0);
        other.add(3, 3, 4, 4);
        due("4 the first one", one.segments(), 4);
        due("11 the first one", one.border(5, 5), 4);
    }

    private static void fullBoard() {
        FaceAtlas atlas = new FaceAtlas();
        for (int k = 0; k < 5; k++) {
            int r = 100 - 20 * k;
            ring(atlas, -r, -r, r, -r, r, r, -r, r);
        }
        due("4 twenty", atlas.segments(), 20);
        due("5 twenty", atlas.vertices(), 20);
        due("6 five", atlas.parts(), 5);
        due("7 six", atlas.faces(), 6);
        for (int k = 0; k < 5; k++) {
            int r = 100 - 20 * k;
            int hole = k < 4 ? 8 * (r - 20) * (r - 20) : 0;
            due("10 ring " + k, atlas.area(-r + 1, 0), 8 * r * r - hole);
            due("11 ring " + k, atlas.border(0, 1 - r), k < 4 ? 8 : 4);
            due("12 ring " + k, atlas.touches(r - 1, 0, 4 * k + 1), 1);
        }
    }
}
