import java.util.ArrayList;
import java.util.List;
import java.util.function.Supplier;
import java.util.function.ToLongFunction;

/** What the tests of sentences say: an answer is due, a call is refused, two objects are alike. */
final class Due {
    static final long LONG_REFUSALS = 4000000000000000000L;
    private static int checked = 0;
    private static final List<String> faults = new ArrayList<>();

    private Due() { }

    static void is(String call, long got, long want) {
        checked++;
        if (got != want) faults.add(call + " answered " + got + ", due is " + want);
    }

    /** A new object to which a ROAD has come. */
    static LitAgain told(String road) {
        LitAgain x = new LitAgain();
        int answer = tell(x, road);
        if (answer < 0) faults.add(road + " should be a road, but answered " + answer);
        return x;
    }

    /** The letters come, then the ROAD. */
    static int tell(LitAgain x, String road) {
        for (char letter : road.toCharArray()) x.feed(letter);
        return x.road();
    }

    /** People of one kind of statement, one behind the other. */
    static String many(int people, String statement) {
        return statement.repeat(people);
    }

    /** In the midst of everything: an image, minutes to take back, letters, numbers, refusals. */
    static LitAgain amidst() {
        LitAgain x = told("p301;p600;p041;p561;w0342;w0151;w2491;f12;d05;m0;");
        x.image();
        x.go(0);
        x.go(1);
        x.go(2);
        x.feed('p');
        x.feed('x');
        x.row(3);
        x.row(1);
        return x;
    }

    /** A call is refused with a number, and nothing changes but how many such refusals there were. */
    static void refused(String call, Supplier<LitAgain> made, ToLongFunction<LitAgain> asked, int number) {
        LitAgain x = made.get();
        LitAgain untouched = made.get();
        long answer = asked.applyAsLong(x);
        is(call, answer >= LONG_REFUSALS ? LONG_REFUSALS - answer : answer, number);
        for (int refusal = 1; refusal <= 6; refusal++) {
            int more = refusal == -number ? 1 : 0;
            is(call + ": how many refusals -" + refusal, x.count(10 + refusal), untouched.count(10 + refusal) + more);
        }
        alike(call, x, untouched);
    }

    static void refused(String call, ToLongFunction<LitAgain> asked, int number) {
        refused(call, Due::amidst, asked, number);
    }

    /** All that can be asked of two objects is the same, whatever was refused; both are used up by it. */
    static void alike(String behind, LitAgain x, LitAgain other) {
        List<Long> told = allOf(x);
        List<Long> due = allOf(other);
        checked++;
        if (!told.equals(due)) faults.add(behind + ": it changed " + due + " to " + told);
    }

    private static List<Long> allOf(LitAgain x) {
        List<Long> all = new ArrayList<>();
        tellState(x, all);
        all.add((long) x.wax(0));
        all.add((long) x.judge());
        for (int i = 0; i < 9; i++) {
            all.add((long) x.back());
            all.add((long) x.lit());
            all.add((long) x.count(3));
        }
        all.add((long) x.road());
        all.add((long) x.restore());
        tellState(x, all);
        return all;
    }

    private static void tellState(LitAgain x, List<Long> all) {
        for (int what = 0; what <= 10; what++) all.add((long) x.count(what));
        all.add((long) x.lit());
        for (int one = 0; one < x.count(0); one++) {
            all.add((long) x.person(one, 0));
            all.add((long) x.person(one, 1));
        }
        for (int place = 0; place <= 24; place++) {
            all.add((long) x.wind(place, 0));
            all.add((long) x.wind(place, 1));
        }
    }

    static int checked() {
        return checked;
    }

    /** What was not as due since it was last asked. */
    static List<String> takeFaults() {
        List<String> taken = new ArrayList<>(faults);
        faults.clear();
        return taken;
    }
}
