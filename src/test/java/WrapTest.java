import java.lang.reflect.Field;

/** Rule 7 of LANGUAGE.md: no call throws by itself in any state, not even where the hours' int wraps. */
public final class WrapTest {
    private static final String TEXT = "bay 8 8 ; rock 7 7 ; shoal 1 1 fish 9 ; boat a slow at 1 1 hold 99 pull 0 trust 1 ;"
        + " boat b plain at 1 2 hold 99 pull 9 trust 2 ; swell hour + x ; wish hour + fish ;";

    public static void main(String[] args) throws ReflectiveOperationException {
        Check check = new Check();
        for (int hour : new int[] {Integer.MAX_VALUE - 30, Integer.MAX_VALUE - 1, Integer.MAX_VALUE, Integer.MIN_VALUE, -25,
            -24, -1}) {
            OneCable cable = Check.told(TEXT);
            setHour(cable, hour);
            check.due("hour", cable.count(3), hour);
            check.due("swell of the hour's day at " + hour, cable.cell(1, 0, 1), Math.floorMod(hour, 24) + 1);
            check.due("wish", cable.wish(0, 3), Math.floorMod(hour, 24));
            askAll(cable);
            cable.order(0, 1);
            check.due("the next hour", cable.hours(1), hour + 1);
            check.due("a slow one goes in even hours", cable.boat(0, 2), hour % 2 == 0 ? 2 : 1);
            check.due("a hundred more", cable.hours(100), hour + 101);
            askAll(cable);
        }
        check.end("WrapTest");
    }

    private static void setHour(OneCable cable, int hour) throws ReflectiveOperationException {
        Field now = OneCable.class.getDeclaredField("now");
        now.setAccessible(true);
        Object state = now.get(cable);
        Field field = state.getClass().getDeclaredField("hour");
        field.setAccessible(true);
        field.setInt(state, hour);
    }

    private static void askAll(OneCable cable) {
        Edges.print(cable);
        for (int boat = 0; boat < 2; boat++) {
            cable.grip(boat, 1, 1);
            cable.soon(boat, 3, -1);
            cable.soon(boat, 999, 5);
            cable.canGet(boat);
            cable.fair(boat);
        }
        cable.chosen(true);
        cable.leaves();
        Check.storm(cable, -1);
        cable.join(3, 3, 3);
        cable.seasons(1, 99, 0);
        cable.seasons(1, 99, 1);
    }
}
