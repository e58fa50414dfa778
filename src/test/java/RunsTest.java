import java.util.Arrays;

/** What programs come to, term by term, and where the limits are: worked out by hand. */
public final class RunsTest {
    private static final int DONE = SegmentMachine.DONE;
    private static final int WRONG = SegmentMachine.WRONG;
    private static final int LONG = SegmentMachine.LONG;
    private static final int DEEP = SegmentMachine.DEEP;
    private static final int FULL = SegmentMachine.FULL;
    private static final int[] ROOMS = {1, 2, 3, 7, 1000};
    private static final Check CHECK = new Check();

    public static void main(String[] args) {
        numbers();
        arithmeticWraps();
        conditions();
        partsFromLeftToRight();
        wrongValues();
        names();
        takenAway();
        calledSegments();
        segmentsOfEachTerm();
        whatIsPending();
        depth();
        callLimit();
        callLimitBeforeDepth();
        outLimit();
        CHECK.end();
    }

    private static int[] list(int... tokens) {
        return tokens;
    }

    private static int[] joined(int[]... lists) {
        return Arrays.stream(lists).flatMapToInt(Arrays::stream).toArray();
    }

    private static int[] times(int count, int... tokens) {
        int[][] lists = new int[count][];
        Arrays.fill(lists, tokens);
        return joined(lists);
    }

    /** Looks at the end of the run, its number, and all that it put out, whatever the room is. */
    private static void due(int[] program, int status, int number, int... outs) {
        SegmentMachine machine = CHECK.fed(program);
        for (int room : ROOMS) {
            String what = Arrays.toString(program) + " at room " + room;
            CHECK.due(what, machine.run(room), status);
            CHECK.due(what + ": number()", machine.number(), number);
            CHECK.due(what + ": outs()", machine.outs(), outs.length);
            for (int i = 0; i < outs.length; i++) {
                CHECK.due(what + ": out(" + i + ")", machine.out(i), outs[i]);
            }
        }
    }

    /** Looks at what the run counted, whatever the room is. */
    private static void countsDue(int[] program, int status, int calls, int shifts, int deepest) {
        SegmentMachine machine = CHECK.fed(program);
        for (int room : ROOMS) {
            String what = Arrays.toString(program) + " at room " + room;
            CHECK.due(what, machine.run(room), status);
            CHECK.due(what + ": calls()", machine.calls(), calls);
            CHECK.due(what + ": shifts()", machine.shifts(), shifts);
            CHECK.due(what + ": deepest()", machine.deepest(), deepest);
        }
    }

    private static void numbers() {
        for (int n = -20; n <= 20; n++) {
            due(list(100 + n), DONE, n);
        }
        due(list(53, 103, 96), DONE, -1);
        due(list(54, 103, 105), DONE, -2);
        due(list(55, 97, 107), DONE, -21);
        due(list(56, 101, 102), DONE, 1);
        due(list(56, 102, 102), DONE, 0);
        due(list(56, 103, 102), DONE, 0);
        due(list(56, 80, 100), DONE, 1);
        due(list(58, 107), DONE, 7, 7);
        due(list(59, 107), DONE, 7);
    }

    private static void arithmeticWraps() {
        // Name 0 is 400, then 160000, then its square, then twenty times that: 898891776.
        int[] large = list(60, 55, 120, 120, 60, 55, 30, 30, 60, 55, 30, 30, 60, 55, 120, 30);
        due(joined(large, list(30)), DONE, 898891776);
        due(joined(large, list(53, 30, 53, 30, 30)), DONE, -1598291968);
        due(joined(large, list(54, 54, 100, 30, 53, 30, 30)), DONE, 1598291968);
        due(joined(large, list(56, 53, 30, 53, 30, 30, 100)), DONE, 1);
        due(joined(large, list(58, 53, 30, 53, 30, 30)), DONE, -1598291968, -1598291968);
    }

    private static void conditions() {
        due(list(57, 100, 101, 102), DONE, 2);
        due(list(57, 101, 101, 102), DONE, 1);
        due(list(57, 99, 101, 102), DONE, 1);
        due(list(57, 101, 103, 30), DONE, 3);
        due(list(57, 100, 30, 103), DONE, 3);
        due(list(57, 58, 100, 58, 101, 58, 102), DONE, 2, 0, 2);
    }

    private static void partsFromLeftToRight() {
        for (int operation = 53; operation <= 56; operation++) {
            int[] want = {3, -1, 2, 1};
            due(list(operation, 58, 101, 58, 102), DONE, want[operation - 53], 1, 2);
        }
        due(list(52, 60, 58, 101, 40, 58, 103, 58, 102), DONE, 3, 1, 2, 3);
        due(list(60, 58, 101, 58, 102), DONE, 2, 1, 2);
        due(list(58, 58, 104), DONE, 4, 4, 4);
    }

    private static void wrongValues() {
        for (int operation = 53; operation <= 56; operation++) {
            due(list(operation, 40, 101, 58, 102), WRONG, 0, 2);
            due(list(operation, 58, 102, 40, 101), WRONG, 0, 2);
            due(list(operation, 40, 101, 40, 101), WRONG, 0);
            due(list(operation, 101, 70, operation, 30, 101), WRONG, 0);
        }
        due(list(52, 101, 58, 102), WRONG, 0, 2);
        due(list(52, 101, 40, 30), WRONG, 0);
        due(list(57, 40, 101, 58, 101, 58, 102), WRONG, 0);
        due(list(57, 70, 57, 30, 101, 101, 101, 101), WRONG, 0);
        due(list(58, 40, 101), WRONG, 0);
        due(list(70, 58, 30), WRONG, 0);
        due(list(53, 58, 101, 53, 30, 58, 102), WRONG, 0, 1);
        countsDue(list(52, 40, 52, 30, 101, 105), WRONG, 1, 0, 2);
    }

    private static void names() {
        due(list(60, 101, 61, 42, 30, 60, 102, 52, 31, 100), DONE, 1);
        due(list(60, 101, 60, 53, 30, 101, 30), DONE, 2);
        due(list(60, 101, 52, 40, 30, 102), DONE, 2);
        due(list(60, 101, 53, 52, 40, 30, 102, 30), DONE, 3);
        due(list(60, 101, 53, 60, 102, 30, 30), DONE, 3);
        due(list(60, 101, 59, 53, 70, 52, 30, 105, 30), DONE, 6);
        due(list(60, 30, 30), WRONG, 0);
        due(list(60, 40, 52, 31, 30, 52, 30, 101), WRONG, 0);
        due(list(53, 60, 101, 30, 30), WRONG, 0);
        due(list(53, 52, 40, 30, 101, 30), WRONG, 0);
        // A function does not see the names where it is called.
        due(list(60, 40, 31, 61, 105, 52, 30, 101), WRONG, 0);
        due(list(60, 101, 61, 102, 62, 103, 63, 104, 64, 105, 65, 106,
            54, 30, 55, 31, 54, 32, 55, 33, 54, 34, 35), DONE, -13);
        // Two functions of one place keep the names that each was made with.
        due(list(60, 40, 41, 54, 30, 31, 61, 52, 30, 110, 62, 52, 30, 103,
            53, 55, 110, 52, 31, 101, 52, 32, 101), DONE, 92);
    }

    private static void takenAway() {
        due(list(53, 101, 70, 107), DONE, 7);
        due(list(53, 101, 59, 53, 102, 70, 107), DONE, 8);
        due(list(53, 110, 59, 70, 53, 101, 71, 102), DONE, 12);
        due(list(53, 110, 59, 58, 70, 58, 103), DONE, 13, 3);
        due(list(59, 53, 58, 101, 53, 70, 107, 58, 102), DONE, 7, 1);
    }

    private static void calledSegments() {
        // As it was when taken: what the first part put out is not put out again.
        due(list(59, 53, 58, 101, 70, 53, 52, 30, 101, 52, 30, 102), DONE, 5, 1);
        due(list(59, 53, 70, 53, 52, 30, 101, 52, 30, 102, 58, 103), DONE, 9, 3, 3);
        // In the same order: 10 - (2 * v).
        due(list(59, 54, 110, 55, 102, 70, 52, 30, 103), DONE, 4);
        // A call of a segment makes a RESET pending, so the second SHIFT takes 2 + and leaves 10 +.
        due(list(53, 101, 59, 53, 102, 52, 70, 53, 110, 52, 30, 40, 71, 30, 100), DONE, 11);
        // A segment that is called after its RESET has ended.
        due(list(60, 59, 55, 103, 70, 30, 53, 52, 30, 101, 52, 30, 102), DONE, 9);
        // A segment called by its own call.
        due(list(52, 70, 52, 30, 40, 30, 105), DONE, 5);
        countsDue(list(53, 101, 70, 52, 30, 52, 30, 101), DONE, 2, 1, 4);
    }

    private static void segmentsOfEachTerm() {
        int[] both = list(70, 53, 52, 30, 101, 52, 30, 102);
        due(joined(list(52, 40, 55, 30, 110), both), DONE, 30);
        due(joined(list(52), list(70, 52, 30, 40, 53, 30, 30), list(104)), DONE, 8);
        due(joined(list(53, 110), both), DONE, 23);
        due(joined(list(54), both, list(110)), DONE, -17);
        due(joined(list(55, 104), both), DONE, 12);
        due(joined(list(56), both, list(102)), DONE, 1);
        due(joined(list(57), both, list(103, 104)), DONE, 6);
        due(joined(list(57, 70, 53, 52, 30, 100, 52, 30, 102, 103, 104)), DONE, 7);
        due(joined(list(58), both), DONE, 3, 1, 2);
        due(joined(list(60), both, list(55, 30, 30)), DONE, 5);
        due(joined(list(59), both), DONE, 3);
    }

    private static void whatIsPending() {
        countsDue(list(101), DONE, 0, 0, 1);
        countsDue(list(40, 53, 101, 101), DONE, 0, 0, 1);
        countsDue(list(70, 71, 72, 101), DONE, 0, 3, 1);
        for (int operation = 53; operation <= 56; operation++) {
            countsDue(list(operation, 101, 101), DONE, 0, 0, 2);
            countsDue(list(operation, 58, 101, 101), DONE, 0, 0, 3);
            countsDue(list(operation, 101, 58, 101), DONE, 0, 0, 3);
        }
        countsDue(list(59, 101), DONE, 0, 0, 2);
        countsDue(list(58, 101), DONE, 0, 0, 2);
        countsDue(joined(times(15, 60, 101), list(30)), DONE, 0, 0, 2);
        countsDue(list(57, 101, 57, 101, 57, 101, 104, 105, 106, 107), DONE, 0, 0, 2);
        countsDue(list(57, 100, 101, 57, 100, 102, 57, 100, 103, 104), DONE, 0, 0, 2);
        countsDue(list(57, 58, 101, 102, 103), DONE, 0, 0, 3);
        countsDue(list(60, 58, 101, 102), DONE, 0, 0, 3);
        countsDue(list(52, 40, 53, 30, 30, 101), DONE, 1, 0, 2);
        countsDue(list(52, 40, 53, 30, 30, 58, 101), DONE, 1, 0, 3);
        countsDue(list(52, 60, 58, 101, 40, 30, 101), DONE, 1, 0, 4);
        countsDue(list(53, 53, 101, 70, 52, 30, 101, 101), DONE, 1, 1, 4);
    }

    private static void depth() {
        for (int token = 58; token <= 59; token++) {
            countsDue(joined(times(15, token), list(101)), DONE, 0, 0, 16);
            countsDue(joined(times(16, token), list(101)), DEEP, 0, 0, 16);
        }
        due(joined(times(16, 58), list(101)), DEEP, 0);
        countsDue(joined(times(8, 52), times(8, 58), times(9, 101)), DEEP, 0, 0, 16);
        countsDue(joined(times(8, 52), times(7, 58), times(9, 101)), WRONG, 0, 0, 16);
        countsDue(joined(list(53, 52, 40, 30, 101), times(15, 58), list(101)), DEEP, 1, 0, 16);
        // Sixteen terms may be pending when a SHIFT takes fifteen of them away.
        countsDue(joined(times(15, 58), list(70, 58, 101)), DONE, 0, 1, 16);
        countsDue(joined(times(15, 58), list(70, 52, 30, 101)), DEEP, 1, 1, 16);
        countsDue(joined(times(14, 58), list(70, 52, 30, 101)), DONE, 1, 1, 16);
        countsDue(joined(times(14, 58), list(70, 58, 52, 30, 101)), DEEP, 1, 1, 15);
        // Nothing of the segment is begun when it does not fit as a whole.
        due(joined(times(14, 58), list(70, 58, 52, 30, 101)), DEEP, 0);
    }

    /** Calls itself twice for each number from count to 0, and then works out the last term. */
    private static int[] countDown(int count, int... last) {
        return joined(list(60, 40, 41, 57, 31, 52, 52, 30, 30, 54, 31, 101), last,
            list(52, 52, 30, 30, 100 + count));
    }

    private static void callLimit() {
        countsDue(countDown(19, 101), DONE, 40, 0, 3);
        countsDue(countDown(19, 52, 101, 101), WRONG, 40, 0, 3);
        countsDue(countDown(19, 52, 40, 101, 101), LONG, 40, 0, 3);
        countsDue(countDown(19, 70, 52, 30, 101), LONG, 40, 1, 3);
        countsDue(countDown(18, 52, 40, 30, 52, 40, 30, 101), DONE, 40, 0, 3);
        countsDue(countDown(18, 52, 40, 30, 52, 40, 30, 52, 40, 30, 101), LONG, 40, 0, 4);
        countsDue(countDown(20, 101), LONG, 40, 0, 3);
        // The value of the 41st call is worked out before the call is refused.
        due(countDown(19, 52, 40, 101, 58, 107), LONG, 0, 7);
    }

    /** First makes 4 + 2 * before calls, and then 24 until a segment is called that does not fit. */
    private static int[] deepCallAfter(int before) {
        return list(60, 40, 41, 57, 31, 58, 52, 52, 30, 30, 54, 31, 101, 72, 58, 58, 52, 32, 101,
            61, 52, 30, 30, 53, 59, 52, 31, 100 + before, 52, 31, 112);
    }

    private static void callLimitBeforeDepth() {
        countsDue(deepCallAfter(5), DEEP, 39, 2, 16);
        countsDue(deepCallAfter(6), LONG, 40, 2, 16);
    }

    private static void outLimit() {
        int[] putting = list(60, 40, 41, 57, 31, 62, 58, 31, 52, 52, 30, 30, 54, 31, 101);
        int[] fifteen = list(52, 52, 30, 30, 115);
        int[] sixteen = list(52, 52, 30, 30, 116);
        due(joined(putting, list(58, 80), fifteen), DONE, -20,
            15, 14, 13, 12, 11, 10, 9, 8, 7, 6, 5, 4, 3, 2, 1, -20);
        due(joined(putting, list(58, 80), sixteen), FULL, 0,
            16, 15, 14, 13, 12, 11, 10, 9, 8, 7, 6, 5, 4, 3, 2, 1);
        due(joined(putting, list(58, 40, 80), sixteen), WRONG, 0,
            16, 15, 14, 13, 12, 11, 10, 9, 8, 7, 6, 5, 4, 3, 2, 1);
        due(joined(putting, list(80), sixteen), DONE, -20,
            16, 15, 14, 13, 12, 11, 10, 9, 8, 7, 6, 5, 4, 3, 2, 1);
        countsDue(joined(putting, list(58, 80), sixteen), FULL, 34, 0, 3);
    }
}
