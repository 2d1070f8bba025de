import java.lang.management.ManagementFactory;
import java.lang.reflect.Array;
import java.lang.reflect.Field;
import java.lang.reflect.Modifier;
import java.util.Collections;
import java.util.IdentityHashMap;
import java.util.Set;

/** All calls live in one room: a call makes nothing, a new object little, and the dearest calls end soon. */
public final class RoomTest {
    private static final String ALL = "cool 0;person a;person b;person c;person d;person e;person f;person g;stair a b;"
        + "stair b c;stair c d;stair d e;stair e f;stair f g;stair a c;stair b d;stair c e;stair d f;swap a g;swap b f;";

    private static final int ROOM_OBJECTS = 600_000;
    private static final int ROOM_ELEMENTS = 7_300_000;
    private static final int CALLS = 512;

    private static int objects = 0;
    private static int elements = 0;

    public static void main(String[] args) throws IllegalAccessException {
        aNewObjectIsSmall();
        aNewObjectForEachCallFits();
        callsMakeNothing();
        Check.end("RoomTest");
    }

    private static long allocated() {
        return ((com.sun.management.ThreadMXBean) ManagementFactory.getThreadMXBean()).getCurrentThreadAllocatedBytes();
    }

    private static void aNewObjectIsSmall() {
        new QuarrelKeys();
        long before = allocated();
        QuarrelKeys x = new QuarrelKeys();
        long bytes = allocated() - before;
        Check.due("status()", x.status(), 0);
        // an int has four bytes: no more than some 15,000 numbers
        Check.due("a new object has " + bytes + " bytes, at most 60,000", bytes <= 60000, true);
    }

    private static void aNewObjectForEachCallFits() throws IllegalAccessException {
        count(new QuarrelKeys(), Collections.newSetFromMap(new IdentityHashMap<>()));
        Check.due(objects + " objects and arrays of a new one, " + CALLS + " times", objects * CALLS <= ROOM_OBJECTS, true);
        Check.due(elements + " fields and elements of it, " + CALLS + " times", elements * CALLS <= ROOM_ELEMENTS, true);
    }

    private static void count(Object o, Set<Object> seen) throws IllegalAccessException {
        if (o == null || !seen.add(o)) {
            return;
        }
        objects++;
        Class<?> c = o.getClass();
        if (c.isArray()) {
            elements += Array.getLength(o);
            for (int i = 0; !c.getComponentType().isPrimitive() && i < Array.getLength(o); i++) {
                count(Array.get(o, i), seen);
            }
            return;
        }
        for (Field f : c.getDeclaredFields()) {
            if (!Modifier.isStatic(f.getModifiers())) {
                elements++;
                f.setAccessible(true);
                count(f.getType().isPrimitive() ? null : f.get(o), seen);
            }
        }
    }

    private static void callsMakeNothing() {
        QuarrelKeys x = Check.with(ALL, "loop 99;any;night 1;make 3;end;");
        x.tray(0, 2, 20);
        callAll(x, 1);
        callAll(x, 2);
        long start = System.nanoTime();
        long before = allocated();
        for (int i = 0; i < 40; i++) {
            callAll(x, i);
        }
        long bytes = allocated() - before;
        Check.due("40 rounds of calls made " + bytes + " bytes, at most 1,000", bytes <= 1000, true);
        Check.due("40 rounds end within 20 seconds", System.nanoTime() - start < 20_000_000_000L, true);
    }

    private static void callAll(QuarrelKeys x, int i) {
        x.mark();
        x.fits(0, 0, 5);
        x.ask(0, 0, 5);
        x.firstAt(0, 1, 5, 4);
        x.homeward();
        x.homewardAt(i);
        x.toward(0);
        x.towardAt(0, 1);
        x.copyLives(0);
        x.toward(0);
        x.ways();
        x.best();
        x.bestOf(i % 7);
        x.trade(i % 7);
        x.winner();
        x.envy();
        x.vote(0, 1);
        x.game(2, 3, 4);
        x.moveOf(2, 3, 4);
        x.drift(0, 1, 5);
        x.mean(i, 20);
        x.live(i);
        x.lived(0);
        x.quarrel(i % 10);
        x.makeUp(i % 10);
        x.night(3);
        x.calm(1, 1);
        x.tell(1, 1, 1);
        x.swap(1, 2);
        x.rule(2, 3);
        x.ring(3);
        x.ringAt(3, 1);
        x.rings();
        x.undo();
        x.feed(0x616e793b, 0x616e793b, 0x616e793b, 0x616e793b, 0x616e793b);
        x.decades(20);
        x.feed(0x706572, 0x20202020, 0x20202020, 0x20202020, 0x20202020);
        x.quarter(20);
        x.back();
        x.tray(1, 1, 60);
        x.write(1, 1, 1);
        x.read(1, 1);
        x.pour(1, 0, 1, 2, 3);
        for (int what = 0; what < 10; what++) {
            x.many(what);
            x.person(1, what);
            x.stair(1, what);
            x.likes(1, what);
        }
    }
}
