/** How a run ends, its limits and their order, and the 512 calls: a test for each sentence. */
public final class LimitsTest {
    private static final int DONE = SegmentMachine.DONE;
    private static final int WRONG = SegmentMachine.WRONG;
    private static final int LONG = SegmentMachine.LONG;
    private static final int DEEP = SegmentMachine.DEEP;
    private static final int FULL = SegmentMachine.FULL;
    private static final int CALLS_OF_AN_OBJECT = 512;
    private static final Check CHECK = new Check();

    public static void main(String[] args) {
        done();
        calls();
        shifts();
        pendingTerms();
        segmentsThatDoNotFit();
        callsAreNotPending();
        numbersPutOut();
        order();
        callsOnOneObject();
        CHECK.end();
    }

    private static void sentence(String words, Runnable test) {
        CHECK.sentence(words, test);
    }

    private static int[] list(int... tokens) {
        return tokens;
    }

    private static int[] joined(int[]... lists) {
        return Programs.joined(lists);
    }

    private static int[] times(int count, int... tokens) {
        return Programs.times(count, tokens);
    }

    private static int[] countDown(int count, int... last) {
        return Programs.countDown(count, last);
    }

    private static int[] putDown(int count, int... last) {
        return Programs.putDown(count, last);
    }

    private static void comesTo(int[] program, int status, int number, int... outs) {
        CHECK.comesTo(program, status, number, outs);
    }

    private static void counts(int[] program, int status, int calls, int shifts, int deepest) {
        CHECK.counts(program, status, calls, shifts, deepest);
    }

    private static void done() {
        sentence("A run ends DONE with the value of the program", () -> {
            comesTo(list(120), DONE, 20);
            comesTo(list(40, 30), DONE, 0);
            CHECK.due("kind()", CHECK.ran(40, 30).kind(), 2);
            CHECK.due("kind()", CHECK.ran(120).kind(), 1);
        });
    }

    private static void calls() {
        sentence("forty calls are DONE", () -> {
            counts(countDown(19, 101), DONE, 40, 0, 3);
            counts(countDown(18, 52, 40, 30, 52, 40, 30, 101), DONE, 40, 0, 3);
            counts(countDown(18, 70, 53, 52, 30, 101, 52, 30, 102), DONE, 40, 1, 3);
        });
        sentence("LONG when a function would be called for the 41st time", () -> {
            counts(countDown(19, 52, 40, 101, 101), LONG, 40, 0, 3);
            counts(countDown(20, 101), LONG, 40, 0, 3);
            counts(countDown(18, 52, 40, 30, 52, 40, 30, 52, 40, 30, 101), LONG, 40, 0, 4);
            counts(list(60, 40, 52, 30, 30, 52, 30, 30), LONG, 40, 0, 2);
        });
        sentence("LONG when what a SHIFT took would be called for the 41st time", () -> {
            counts(countDown(19, 70, 52, 30, 101), LONG, 40, 1, 3);
            counts(countDown(18, 70, 53, 52, 30, 101, 53, 52, 30, 102, 52, 30, 103),
                LONG, 40, 1, 4);
        });
        sentence("the 41st call is refused when it would be made, not before", () -> {
            comesTo(countDown(19, 52, 40, 101, 58, 107), LONG, 0, 7);
            comesTo(countDown(19, 52, 40, 58, 101, 107), LONG, 0);
            comesTo(countDown(19, 52, 40, 101, 70, 107), DONE, 7);
        });
        sentence("a number that would be called after forty calls is no function", () ->
            counts(countDown(19, 52, 101, 101), WRONG, 40, 0, 3));
    }

    private static void shifts() {
        sentence("eight SHIFTs are DONE", () -> {
            counts(list(70, 71, 72, 73, 74, 75, 70, 71, 101), DONE, 0, 8, 1);
            comesTo(joined(times(8, 58, 70), list(101)), DONE, 1);
        });
        sentence("LONG when a SHIFT would be done for the ninth time", () -> {
            counts(list(70, 71, 72, 73, 74, 75, 70, 71, 72, 101), LONG, 0, 8, 1);
            comesTo(joined(times(8, 70), list(72, 58, 101)), LONG, 0);
            counts(joined(times(8, 70), times(15, 59), list(72, 101)), LONG, 0, 8, 16);
            // Each call of the function does a SHIFT, and then calls it again.
            counts(list(60, 40, 61, 59, 71, 101, 52, 30, 30, 52, 30, 30), LONG, 9, 8, 3);
        });
        sentence("each of eight SHIFTs stands for what it took itself", () -> {
            for (int which = 0; which < 8; which++) {
                comesTo(callOneOfEight(which), DONE, which + 1 + 10);
            }
        });
    }

    /** Eight SHIFTs, each inside its own sum; the one in question has name 5, the others name 0. */
    private static int[] callOneOfEight(int which) {
        int[] program = list(52, 35, 110);
        for (int shift = 7; shift >= 0; shift--) {
            program = joined(list(53, 101 + shift, shift == which ? 75 : 70), program);
        }
        return program;
    }

    private static void pendingTerms() {
        int[][] terms = {
            {52, 40, 30, 101}, {53, 101, 102}, {54, 101, 102}, {55, 101, 102}, {56, 101, 102},
            {57, 101, 102, 103}, {58, 101}, {59, 101}, {60, 101, 30}, {61, 101, 31},
            {62, 101, 32}, {63, 101, 33}, {64, 101, 34}, {65, 101, 35}};
        for (int[] term : terms) {
            int calls = term[0] == 52 ? 1 : 0;
            sentence("sixteen terms may be pending, the last of them a " + term[0], () ->
                counts(joined(times(14, 59), term), DONE, calls, 0, 16));
            sentence("DEEP when a " + term[0] + " would be the seventeenth pending", () -> {
                counts(joined(times(15, 59), term), DEEP, 0, 0, 16);
                comesTo(joined(times(15, 59), term), DEEP, 0);
            });
        }
        sentence("DEEP when more than sixteen would be pending, in any part of a term", () -> {
            counts(joined(times(14, 59), list(53, 58, 101, 102)), DEEP, 0, 0, 16);
            counts(joined(times(14, 59), list(53, 101, 58, 102)), DEEP, 0, 0, 16);
            counts(joined(times(14, 59), list(52, 40, 30, 58, 102)), DEEP, 0, 0, 16);
            counts(joined(list(53, 52, 40, 30, 101), times(15, 58), list(101)), DEEP, 1, 0, 16);
            counts(joined(times(8, 52), times(8, 58), times(9, 101)), DEEP, 0, 0, 16);
            counts(joined(times(8, 52), times(7, 58), times(9, 101)), WRONG, 0, 0, 16);
        });
        sentence("DEEP before a part of the seventeenth is worked out", () -> {
            comesTo(joined(times(16, 58), list(101)), DEEP, 0);
            comesTo(joined(times(15, 58), list(101)), DONE, 1, times(15, 1));
        });
        sentence("what is not pending has room when sixteen are", () -> {
            comesTo(joined(times(15, 59), list(107)), DONE, 7);
            comesTo(joined(times(15, 59), list(40, 107)), DONE, 0);
            comesTo(joined(times(15, 59), list(70, 107)), DONE, 7);
            comesTo(joined(times(15, 59), list(30)), WRONG, 0);
            counts(joined(times(14, 59), list(57, 101, 58, 102, 103)), DONE, 0, 0, 16);
            counts(joined(times(14, 59), list(57, 100, 102, 58, 103)), DONE, 0, 0, 16);
            counts(joined(times(14, 59), list(60, 101, 58, 30)), DONE, 0, 0, 16);
            counts(joined(times(15, 58), list(70, 58, 101)), DONE, 0, 1, 16);
        });
        sentence("DEEP also when functions call each other", () ->
            counts(list(60, 40, 53, 101, 52, 30, 30, 52, 30, 30), DEEP, 15, 0, 16));
    }

    private static void segmentsThatDoNotFit() {
        sentence("what that function makes pending counts together: sixteen", () -> {
            counts(joined(times(14, 58), list(70, 52, 30, 101)), DONE, 1, 1, 16);
            counts(joined(times(7, 58), list(70), times(7, 58), list(52, 30, 101)), DONE, 1, 1, 16);
            counts(joined(list(70), times(14, 58), list(52, 30, 101)), DONE, 1, 1, 16);
        });
        sentence("what that function makes pending counts together: seventeen", () -> {
            counts(joined(times(15, 58), list(70, 52, 30, 101)), DEEP, 1, 1, 16);
            counts(joined(times(14, 58), list(70, 58, 52, 30, 101)), DEEP, 1, 1, 15);
            counts(joined(times(7, 58), list(70), times(8, 58), list(52, 30, 101)), DEEP, 1, 1, 10);
        });
        sentence("together: nothing of it is begun when it does not fit as a whole", () -> {
            comesTo(joined(times(14, 58), list(70, 58, 52, 30, 101)), DEEP, 0);
            comesTo(joined(times(15, 58), list(70, 52, 30, 101)), DEEP, 0);
        });
    }

    private static void callsAreNotPending() {
        sentence("A CALL is not pending any more when its function is called", () -> {
            counts(joined(times(14, 59), list(52, 40, 58, 30, 101)), DONE, 1, 0, 16);
            counts(joined(times(14, 59), list(52, 40, 58, 58, 30, 101)), DEEP, 1, 0, 16);
            counts(list(60, 40, 52, 30, 30, 52, 30, 30), LONG, 40, 0, 2);
        });
        sentence("A CALL is not pending any more when what a SHIFT took is called", () -> {
            counts(joined(times(13, 59), list(58, 70, 52, 30, 101)), DONE, 1, 1, 16);
            counts(joined(times(14, 59), list(58, 70, 52, 30, 101)), DEEP, 1, 1, 16);
        });
    }

    private static void numbersPutOut() {
        sentence("sixteen numbers put out are DONE", () -> {
            comesTo(putDown(15, 58, 80), DONE, -20, Programs.down(15, -20));
            comesTo(putDown(16, 80), DONE, -20, Programs.down(16));
        });
        sentence("FULL when a number would be put out and sixteen have been", () -> {
            comesTo(putDown(16, 58, 80), FULL, 0, Programs.down(16));
            comesTo(putDown(15, 58, 58, 80), FULL, 0, Programs.down(15, -20));
            comesTo(putDown(17, 80), FULL, 0, list(17, 16, 15, 14, 13, 12, 11, 10, 9, 8, 7, 6, 5, 4,
                3, 2));
            counts(putDown(16, 58, 80), FULL, 34, 0, 3);
        });
        sentence("a function that would be put out after sixteen is no number", () ->
            comesTo(putDown(16, 58, 40, 80), WRONG, 0, Programs.down(16)));
        sentence("a 58 after sixteen ends the run only when its number is there", () ->
            comesTo(putDown(16, 58, 70, 80), DONE, -20, Programs.down(16)));
    }

    /** Makes 4 + 2 * before calls, and then 24 until a segment is called that does not fit. */
    private static int[] deepCallAfter(int before) {
        return list(60, 40, 41, 57, 31, 58, 52, 52, 30, 30, 54, 31, 101, 72, 58, 58, 52, 32, 101,
            61, 52, 30, 30, 53, 59, 52, 31, 100 + before, 52, 31, 112);
    }

    private static void order() {
        sentence("the limit for calls is looked at before that for pending terms", () -> {
            counts(deepCallAfter(5), DEEP, 39, 2, 16);
            counts(deepCallAfter(6), LONG, 40, 2, 16);
        });
    }

    private static void callsOnOneObject() {
        sentence("at most 512 calls: feed and undo", () -> {
            SegmentMachine machine = new SegmentMachine();
            for (int call = 0; call < CALLS_OF_AN_OBJECT - 2; call += 2) {
                CHECK.due("feed", machine.feed(53), 1);
                CHECK.due("undo", machine.undo(), 53);
            }
            CHECK.due("the 511th call", machine.feed(101), 1);
            CHECK.due("the 512th call", machine.complete(), true);
        });
        sentence("at most 512 calls: refused ones", () -> {
            SegmentMachine machine = new SegmentMachine();
            for (int call = 0; call < CALLS_OF_AN_OBJECT - 1; call++) {
                CHECK.due("feed of no token", machine.feed(call % 30), SegmentMachine.BAD);
            }
            CHECK.due("the 512th call", machine.feed(101), 1);
        });
        sentence("at most 512 calls: runs", () -> {
            runUntilTheLastCall(countDown(18, 58, 70, 53, 52, 30, 103, 52, 30, 104), DONE, 7);
            runUntilTheLastCall(countDown(19, 58, 70, 52, 30, 101), LONG, 0);
            runUntilTheLastCall(deepCallAfter(5), DEEP, 0);
            runUntilTheLastCall(putDown(16, 58, 101), FULL, 0);
            runUntilTheLastCall(list(53, 101, 40, 30), WRONG, 0);
        });
    }

    private static void runUntilTheLastCall(int[] program, int status, int number) {
        SegmentMachine machine = CHECK.fed(program);
        for (int call = program.length; call < CALLS_OF_AN_OBJECT - 1; call++) {
            CHECK.due("run", machine.run(1 + call % 7), status);
        }
        CHECK.due("the 512th call", machine.number(), number);
    }
}
