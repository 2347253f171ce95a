import java.lang.reflect.Array;
import java.lang.reflect.Field;

/** Reaches into a chapel to bring it into states that no calls lead to; the fields are those of BridgeChapel.java. */
final class Inside {
    private Inside() {
    }

    private static Field field(Object owner, String name) throws NoSuchFieldException {
        Field field = owner.getClass().getDeclaredField(name);
        field.setAccessible(true);
        return field;
    }

    /** Follows the names of fields, as in "state.members". */
    private static Object part(Object owner, String path) throws ReflectiveOperationException {
        Object part = owner;
        for (String name : path.split("[.]")) {
            part = field(part, name).get(part);
        }
        return part;
    }

    static void setTreasury(BridgeChapel chapel, String name, int value) {
        try {
            Object treasury = part(chapel, "state.treasury");
            field(treasury, name).setInt(treasury, value);
        } catch (ReflectiveOperationException e) {
            throw new IllegalStateException("the treasury has no " + name, e);
        }
    }

    /** Sets a number in one of the rows, as in "members.first". */
    static void setInRow(BridgeChapel chapel, String row, int index, int value) {
        try {
            Array.setInt(part(chapel, "state." + row), index, value);
        } catch (ReflectiveOperationException e) {
            throw new IllegalStateException("there is no row " + row, e);
        }
    }
}
