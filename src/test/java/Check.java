/** Counts the answers that are not the ones that are due, and ends a test with exit code 1 if any. */
final class Check {
    private int looked;
    private int wrong;

    void due(String what, long got, long want) {
        looked++;
        if (got != want) {
            wrong++;
            System.out.println(what + " answered " + got + ", due is " + want);
        }
    }

    void due(String what, boolean got, boolean want) {
        due(what, got ? 1 : 0, want ? 1 : 0);
    }

    boolean allAsDue() {
        return wrong == 0;
    }

    void end() {
        System.out.println(looked + " answers, " + wrong + " not as due");
        if (wrong != 0 || looked == 0) {
            System.exit(1);
        }
    }

    /** A new object with these tokens, none of which may be refused. */
    SegmentMachine fed(int... tokens) {
        SegmentMachine machine = new SegmentMachine();
        for (int i = 0; i < tokens.length; i++) {
            due("feed(" + tokens[i] + ")", machine.feed(tokens[i]), i + 1);
        }
        return machine;
    }

    /** Everything that a run leaves behind, as it is where nothing has run. */
    void nothingHasRun(String what, SegmentMachine machine) {
        due(what + ": status()", machine.status(), SegmentMachine.NONE);
        due(what + ": kind()", machine.kind(), 0);
        due(what + ": number()", machine.number(), 0);
        due(what + ": outs()", machine.outs(), 0);
        due(what + ": out(0)", machine.out(0), 0);
        due(what + ": calls()", machine.calls(), 0);
        due(what + ": shifts()", machine.shifts(), 0);
        due(what + ": deepest()", machine.deepest(), 0);
    }
}
