import java.lang.reflect.Field;
import java.lang.reflect.Method;

/**
 * Puts bytes on flash, and keys into the table, past the face: the document speaks of some bytes that no run of calls
 * can bring there. It knows how the class holds them, so it changes with the class.
 */
final class Inside {
    private Inside() { }

    /** The bytes are there then, whatever was before; and the device looks at its flash as behind a change of its own. */
    static void put(Device x, int sector, int from, Bytes bytes) {
        x.inside(y -> {
            int[] cells = (int[]) field(field(field(y, "flash"), "cells"), "cells");
            for (int i = 0; i < bytes.size(); i++) {
                cells[sector * 128 + from + i] = bytes.all.get(i);
            }
            lookAgain(y);
            return 0;
        });
    }

    static void sign(Device x, int key, long digest) {
        x.inside(y -> {
            call(field(field(y, "update"), "signatures"), "add", new Class<?>[] {int.class, long.class}, key, digest);
            return 0;
        });
    }

    private static void lookAgain(FlashTrust x) {
        call(field(x, "states"), "look", new Class<?>[0]);
        for (Object shelf : (Object[]) field(x, "shelves")) {
            call(field(shelf, "first"), "look", new Class<?>[0]);
            call(field(shelf, "second"), "look", new Class<?>[0]);
        }
    }

    private static Object field(Object owner, String name) {
        try {
            Field field = owner.getClass().getDeclaredField(name);
            field.setAccessible(true);
            return field.get(owner);
        } catch (ReflectiveOperationException e) {
            throw new IllegalStateException("the class has no such field any more: " + name, e);
        }
    }

    private static void call(Object owner, String name, Class<?>[] types, Object... given) {
        try {
            Method method = owner.getClass().getDeclaredMethod(name, types);
            method.setAccessible(true);
            method.invoke(owner, given);
        } catch (ReflectiveOperationException e) {
            throw new IllegalStateException("the class has no such method any more: " + name, e);
        }
    }
}
