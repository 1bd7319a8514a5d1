import java.util.ArrayList;
import java.util.Arrays;
import java.util.List;

/** An object of the program, and the calls that made it what it is, so that twins of it can be made. */
final class Run {
    private static final int MOST_CALLS = 512;

    private final RoadCobblers x = new RoadCobblers();
    private final List<Call> changes = new ArrayList<>();
    private int calls = 0;

    /** Answers a call; one that must change nothing is tried on a twin, too. */
    long answer(Call call, String label) {
        calls++;
        Due.isTrue(label + ": no more than " + MOST_CALLS + " calls", calls <= MOST_CALLS);
        long answer = call.on(x);
        if (call.mayChange() && !Call.isRefusal(answer)) changes.add(call);
        else Due.isTrue(label + " changes nothing", Arrays.equals(look(twin()), lookBehind(call)));
        return answer;
    }

    private RoadCobblers twin() {
        RoadCobblers twin = new RoadCobblers();
        for (Call change : changes) change.on(twin);
        return twin;
    }

    private long[] lookBehind(Call call) {
        RoadCobblers twin = twin();
        call.on(twin);
        return look(twin);
    }

    /** All that an object can be asked for, now, behind its days, and from its images; it is used up by it. */
    private static long[] look(RoadCobblers x) {
        List<Long> seen = new ArrayList<>();
        lookNow(x, seen);
        seen.add((long) x.done());
        lookNow(x, seen);
        for (int image = 0; image <= 1; image++) {
            seen.add((long) x.restore(image));
            lookNow(x, seen);
        }
        return seen.stream().mapToLong(Long::longValue).toArray();
    }

    private static void lookNow(RoadCobblers x, List<Long> seen) {
        for (int what = 0; what <= 3; what++) seen.add((long) x.told(what));
        for (int walker = 0; walker <= 5; walker++) {
            seen.add((long) x.told(10 + walker));
            seen.add((long) x.told(20 + walker));
        }
        for (int a = 0; a <= 8; a++) {
            for (int b = a + 1; b <= 8; b++) seen.add((long) x.told(100 + 10 * a + b));
        }
        for (int i = -1; i <= 2; i++) seen.add((long) x.who(i));
        seen.add((long) x.fault());
        for (int what = 0; what <= 1; what++) seen.add((long) x.judge(what));
        for (int what = 0; what <= 5; what++) seen.add((long) x.then(what));
    }
}
