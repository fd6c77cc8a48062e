import java.util.Random;
import java.util.function.ToIntFunction;

/**
 * Two rooms made by the same calls, one of which gets a call more that must change nothing. What is hidden
 * in a room (things on the way, what was heard) shows only later, so the two are also led through the same futures.
 */
final class Twins {
    private static final int FUTURES = 24;
    private static final int FUTURE_CALLS = 100;

    private Twins() {
    }

    static void refused(Checks checks, String before, String name, ToIntFunction<OrderedRoom> call) {
        changesNothing(checks, before, name, -1, call);
    }

    /** Within 512 calls for each room, if those before are 240 or fewer. */
    static void changesNothing(Checks checks, String before, String name, int want, ToIntFunction<OrderedRoom> call) {
        String where = name + " after '" + before + "'";
        OrderedRoom called = Rooms.after(before);
        checks.due(where, call.applyAsInt(called), want);
        checks.due("state by " + where, Rooms.stateOf(called), Rooms.stateOf(Rooms.after(before)));
        for (int future = 0; future < FUTURES; future++) {
            called = Rooms.after(before);
            call.applyAsInt(called);
            checks.due("future " + future + " of " + where, tell(called, future), tell(Rooms.after(before), future));
        }
    }

    /** The answers of one future, the same calls for the same number, and the state at its end. */
    private static String tell(OrderedRoom room, int future) {
        StringBuilder answers = new StringBuilder();
        Random random = new Random(future);
        for (int i = 0; i < FUTURE_CALLS; i++) {
            int kind = random.nextInt(10);
            int member = random.nextInt(3);
            int other = (member + 1 + random.nextInt(2)) % 3;
            int answer = kind == 0 ? room.write(member) : kind < 3 ? room.tick(member) : room.take(member, other);
            answers.append(answer).append(' ');
        }
        return answers + Rooms.stateOf(room);
    }
}
