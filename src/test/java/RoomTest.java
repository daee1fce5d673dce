import java.lang.reflect.Array;
import java.lang.reflect.Field;
import java.lang.reflect.Modifier;
import java.util.ArrayDeque;
import java.util.Collections;
import java.util.Deque;
import java.util.IdentityHashMap;
import java.util.Set;

/** All calls of one run live in one room, so an object must hold little, and no more behind its calls than at first. */
public final class RoomTest {
    /** A run may make an object for each of 512 calls and stay within 600,000 objects, 7.3 million cells. */
    private static final int MOST_OBJECTS = 600000 / 512;
    private static final int MOST_CELLS = 7300000 / 512;
    private static final String FULL = "grave a long 9 deep 6 due 9;grave b long 8 deep 5 due 8;grave c long 7 deep 6 due 7;"
            + "grave d long 6 deep 5 due 6;grave e long 5 deep 6 due 5;grave f long 4 deep 5 due 4;"
            + "person p tall 1 age 70 will 1;person q tall 2 age 60 will 2;person r tall 3 age 50 will 3;"
            + "person s tall 4 age 40 will 4;person t tall 5 age 30 will 5;person u tall 6 age 20 will 6;"
            + "person v tall 7 age 10 will 7;person w tall 8 age 0 will 8;dies age/2+1;heart will+taken;";
    private static final Check check = new Check();

    private int objects;
    private int cells;

    public static void main(String[] args) throws IllegalAccessException {
        OpenGraves x = new OpenGraves();
        RoomTest atFirst = new RoomTest();
        atFirst.count(x);
        check.due("a new object is at most " + MOST_OBJECTS + " objects (" + atFirst.objects + ")",
                atFirst.objects > 1 && atFirst.objects <= MOST_OBJECTS, true);
        check.due("a new object has at most " + MOST_CELLS + " fields and elements (" + atFirst.cells + ")",
                atFirst.cells > 1 && atFirst.cells <= MOST_CELLS, true);
        useDearly(x);
        RoomTest behind = new RoomTest();
        behind.count(x);
        check.due("objects behind dear calls", behind.objects, atFirst.objects);
        check.due("fields and elements behind dear calls", behind.cells, atFirst.cells);
        check.close("RoomTest");
    }

    private void count(Object root) throws IllegalAccessException {
        Set<Object> met = Collections.newSetFromMap(new IdentityHashMap<>());
        Deque<Object> open = new ArrayDeque<>();
        open.add(root);
        while (!open.isEmpty()) {
            Object one = open.remove();
            if (met.add(one)) {
                objects++;
                if (one.getClass().isArray()) {
                    countElements(one, open);
                } else {
                    countFields(one, open);
                }
            }
        }
    }

    private void countElements(Object array, Deque<Object> open) {
        cells += Array.getLength(array);
        if (array instanceof Object[] all) {
            for (Object element : all) {
                addIfAny(element, open);
            }
        }
    }

    private void countFields(Object one, Deque<Object> open) throws IllegalAccessException {
        for (Field f : one.getClass().getDeclaredFields()) {
            if (!Modifier.isStatic(f.getModifiers())) {
                cells++;
                if (!f.getType().isPrimitive()) {
                    f.setAccessible(true);
                    addIfAny(f.get(one), open);
                }
            }
        }
    }

    private static void addIfAny(Object one, Deque<Object> open) {
        if (one != null) {
            open.add(one);
        }
    }

    private static void useDearly(OpenGraves x) {
        Check.put(x, FULL);
        check.due("parish() of a full parish", x.parish(), 16);
        Check.put(x, 30, 0, 1, 30, 5, 0);
        check.due("see()", x.see(), 2);
        for (int k = 0; k < 25; k++) {
            x.talk(7, k % 2);
            x.row(0);
            x.enemy(4, 0);
            x.odds(0);
            x.wills(0);
            x.tells(0, 2);
            x.taken(60);
            x.filled(0);
            x.image();
            Check.put(x, "total min(age,max(fits number,due 3))");
            x.ask();
        }
        Check.put(x, Check.imageOf(x));
        check.due("on()", x.on(), true);
        check.due("chance(100) is done", x.chance(100) >= 0, true);
        check.due("undo()", x.undo(), true);
        check.due("months(100) is done", x.months(100) >= 0, true);
    }
}
