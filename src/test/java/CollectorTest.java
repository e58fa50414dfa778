import java.lang.reflect.Field;

/**
 * That run collects after every so many cells: no answer can show it, so this test looks inside
 * the object at the last cell that was ever taken. How the state is held is free: a class that
 * holds its cells in another way has nothing to look at here, and the test says so.
 */
public final class CollectorTest {
    private static final int CELLS_START_AT = 9;
    private static final Check CHECK = new Check();

    public static void main(String[] args) throws ReflectiveOperationException {
        if (lastCell() == null) {
            System.out.println("no field lastCell: nothing to look at");
            return;
        }
        // Each 60 takes a cell that is not used any more when the next one is worked out.
        int[] shortLived = {53, 60, 101, 30, 53, 60, 101, 30, 53, 60, 101, 30, 60, 101, 30};
        cellsDue(shortLived, 1, 2);
        cellsDue(shortLived, 2, 3);
        cellsDue(shortLived, 3, 3);
        cellsDue(shortLived, 4, 4);
        cellsDue(shortLived, 1000, 4);
        // Here all of them are still in use at the end.
        int[] kept = {60, 101, 61, 102, 62, 103, 63, 104, 53, 30, 53, 31, 53, 32, 33};
        cellsDue(kept, 1, 4);
        cellsDue(kept, 1000, 4);
        // 41 cells for 40 calls and one name, of which few are in use at the same time.
        int[] loop = {60, 40, 52, 30, 30, 52, 30, 30};
        cellsDue(loop, 1, 2);
        cellsDue(loop, 1000, 41);
        // A segment that is not used any more does not keep the cell of what it stands for.
        int[] dropped = {53, 59, 60, 101, 53, 70, 102, 30, 60, 101, 60, 102, 60, 103, 30};
        cellsDue(dropped, 1, 3);
        cellsDue(dropped, 1000, 5);
        CHECK.end();
    }

    private static void cellsDue(int[] program, int room, int cells)
            throws ReflectiveOperationException {
        SegmentMachine machine = CHECK.fed(program);
        machine.run(room);
        int taken = lastCell().getInt(machine) - CELLS_START_AT + 1;
        CHECK.due("cells at room " + room, taken, cells);
    }

    private static Field lastCell() {
        for (Field field : SegmentMachine.class.getDeclaredFields()) {
            if (field.getName().equals("lastCell")) {
                field.setAccessible(true);
                return field;
            }
        }
        return null;
    }
}
