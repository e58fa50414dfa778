import java.util.Arrays;

/**
 * Counts the answers that are not the ones that are due, and ends a test with exit code 1 if any.
 * Each sentence of the document is looked at on its own, so that a fault names what does not hold.
 */
final class Check {
    private static final int[] ROOMS = {1, 2, 3, 7, 1000};

    private static final long LONGEST_TEST = 180_000;

    private int sentences;
    private int looked;
    private int wrong;

    Check() {
        Thread watch = new Thread(Check::endIfTooLong);
        watch.setDaemon(true);
        watch.start();
    }

    // A call that does not end is to fail the test, not to hold it up for ever.
    private static void endIfTooLong() {
        try {
            Thread.sleep(LONGEST_TEST);
        } catch (InterruptedException woken) {
            return;
        }
        System.out.println("the test does not end");
        Runtime.getRuntime().halt(1);
    }

    void due(String what, long got, long want) {
        looked++;
        if (got != want) {
            wrong++;
            System.out.println(what + " answered " + got + ", due is " + want);
        }
    }

    void due(String what, boolean got, boolean want) {
        due(what, got ? 1 : 0, want ? 1 : 0);
    }

    /** Looks whether these words of the document hold; a test that looks at nothing is a fault. */
    void sentence(String words, Runnable test) {
        int lookedBefore = looked;
        int wrongBefore = wrong;
        sentences++;
        try {
            test.run();
        } catch (RuntimeException thrown) {
            wrong++;
            System.out.println("thrown: " + thrown);
        }
        if (looked == lookedBefore) {
            wrong++;
            System.out.println("no answer was looked at");
        }
        if (wrong != wrongBefore) {
            System.out.println("DOES NOT HOLD: " + words);
        }
    }

    boolean allAsDue() {
        return wrong == 0;
    }

    void end() {
        String of = sentences == 0 ? "" : sentences + " sentences, ";
        System.out.println(of + looked + " answers, " + wrong + " not as due");
        if (wrong != 0 || looked == 0) {
            System.exit(1);
        }
    }

    /** A new object with these tokens, none of which may be refused. */
    SegmentMachine fed(int... tokens) {
        SegmentMachine machine = new SegmentMachine();
        for (int i = 0; i < tokens.length; i++) {
            due("feed(" + tokens[i] + ")", machine.feed(tokens[i]), i + 1);
        }
        return machine;
    }

    /** A new object with these tokens that has run them. */
    SegmentMachine ran(int... tokens) {
        SegmentMachine machine = fed(tokens);
        machine.run(1);
        return machine;
    }

    /** Looks at the end of the run, its number, and all that it put out, whatever the room is. */
    void comesTo(int[] program, int status, int number, int... outs) {
        SegmentMachine machine = fed(program);
        for (int room : ROOMS) {
            String what = Arrays.toString(program) + " at room " + room;
            due(what, machine.run(room), status);
            due(what + ": number()", machine.number(), number);
            due(what + ": outs()", machine.outs(), outs.length);
            for (int i = 0; i < outs.length; i++) {
                due(what + ": out(" + i + ")", machine.out(i), outs[i]);
            }
        }
    }

    /** Looks at what the run counted, whatever the room is. */
    void counts(int[] program, int status, int calls, int shifts, int deepest) {
        SegmentMachine machine = fed(program);
        for (int room : ROOMS) {
            String what = Arrays.toString(program) + " at room " + room;
            due(what, machine.run(room), status);
            due(what + ": calls()", machine.calls(), calls);
            due(what + ": shifts()", machine.shifts(), shifts);
            due(what + ": deepest()", machine.deepest(), deepest);
        }
    }

    /** Everything that a run leaves behind, as it is where nothing has run. */
    void nothingHasRun(String what, SegmentMachine machine) {
        due(what + ": status()", machine.status(), SegmentMachine.NONE);
        due(what + ": kind()", machine.kind(), 0);
        due(what + ": number()", machine.number(), 0);
        due(what + ": outs()", machine.outs(), 0);
        due(what + ": out(0)", machine.out(0), 0);
        due(what + ": calls()", machine.calls(), 0);
        due(what + ": shifts()", machine.shifts(), 0);
        due(what + ": deepest()", machine.deepest(), 0);
    }
}
