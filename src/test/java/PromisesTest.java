/** The promises of the document, one method each, with their edges and with wrong inputs. */
public final class PromisesTest {
    private static final int BAD = SegmentMachine.BAD;
    private static final int FULL_LIST = SegmentMachine.FULL_LIST;
    private static final Check CHECK = new Check();

    // Puts 5 out, does one SHIFT and two calls of it, and comes to 25.
    private static final int[] BUSY = {53, 58, 105, 59, 55, 102, 70, 52, 30, 52, 30, 105};

    public static void main(String[] args) {
        aNewObject();
        feed();
        feedTakesTokensAlone();
        undo();
        token();
        complete();
        free();
        run();
        roomMakesNoDifference();
        status();
        kindAndNumber();
        outs();
        calls();
        shifts();
        deepest();
        refusedCallsChangeNothing();
        CHECK.end();
    }

    private static void due(String what, long got, long want) {
        CHECK.due(what, got, want);
    }

    private static SegmentMachine fed(int... tokens) {
        return CHECK.fed(tokens);
    }

    private static SegmentMachine ran(int... tokens) {
        SegmentMachine machine = fed(tokens);
        machine.run(1);
        return machine;
    }

    private static void aNewObject() {
        SegmentMachine machine = new SegmentMachine();
        CHECK.nothingHasRun("new", machine);
        due("new: token(0)", machine.token(0), BAD);
        CHECK.due("new: complete()", machine.complete(), false);
        due("new: free()", machine.free(), BAD);
        due("new: run(1)", machine.run(1), BAD);
        due("new: undo()", machine.undo(), BAD);
        ran(BUSY);
        CHECK.nothingHasRun("new, beside another", machine);
        due("new: feed", machine.feed(101), 1);
    }

    private static void feed() {
        SegmentMachine machine = new SegmentMachine();
        for (int count = 1; count <= 32; count++) {
            due("feed to " + count, machine.feed(58), count);
        }
        due("feed to a list of 32", machine.feed(101), FULL_LIST);
        due("feed no token to a list of 32", machine.feed(99 + 22), BAD);
        CHECK.due("32 tokens, not whole", machine.complete(), false);
        due("undo at 32", machine.undo(), 58);
        due("the 32nd token makes it whole", machine.feed(107), 32);
        CHECK.due("32 tokens, whole", machine.complete(), true);
        due("feed to 32 whole", machine.feed(101), FULL_LIST);

        SegmentMachine whole = fed(53, 101, 102);
        due("feed to a whole term", whole.feed(103), FULL_LIST);
        due("feed no token to a whole term", whole.feed(0), BAD);
        due("feed after undo", whole.undo(), 102);
        due("feed after undo", whole.feed(110), 3);
        CHECK.nothingHasRun("after feed", whole);
    }

    private static void feedTakesTokensAlone() {
        for (int token = -300; token <= 400; token++) {
            boolean is = token >= 30 && token <= 35 || token >= 40 && token <= 45
                || token >= 52 && token <= 65 || token >= 70 && token <= 75
                || token >= 80 && token <= 120;
            due("feed(" + token + ")", new SegmentMachine().feed(token), is ? 1 : BAD);
        }
        int[] far = {Integer.MIN_VALUE, Integer.MAX_VALUE, 65536 + 101, 256 + 101, -101};
        for (int token : far) {
            due("feed(" + token + ")", new SegmentMachine().feed(token), BAD);
        }
    }

    private static void undo() {
        SegmentMachine machine = ran(BUSY);
        due("the busy run", machine.status(), SegmentMachine.DONE);
        for (int left = BUSY.length - 1; left >= 0; left--) {
            due("undo to " + left, machine.undo(), BUSY[left]);
            CHECK.nothingHasRun("after undo to " + left, machine);
            due("token taken away", machine.token(left), BAD);
            CHECK.due("complete() at " + left, machine.complete(), false);
        }
        due("undo of nothing", machine.undo(), BAD);
        due("undo of nothing again", machine.undo(), BAD);
        due("feed after all", machine.feed(80), 1);
        due("undo of -20", machine.undo(), 80);
    }

    private static void token() {
        SegmentMachine machine = fed(BUSY);
        for (int i = 0; i < BUSY.length; i++) {
            due("token(" + i + ")", machine.token(i), BUSY[i]);
        }
        int[] none = {-1, BUSY.length, 31, 32, 33, Integer.MIN_VALUE, Integer.MAX_VALUE};
        for (int i : none) {
            due("token(" + i + ")", machine.token(i), BAD);
        }
    }

    private static void complete() {
        partsNeeded(0, 30, 35);
        partsNeeded(1, 40, 45);
        partsNeeded(2, 52, 56);
        partsNeeded(3, 57, 57);
        partsNeeded(1, 58, 59);
        partsNeeded(2, 60, 65);
        partsNeeded(1, 70, 75);
        partsNeeded(0, 80, 120);
    }

    private static void partsNeeded(int parts, int from, int to) {
        for (int token = from; token <= to; token++) {
            SegmentMachine machine = fed(token);
            for (int part = 0; part < parts; part++) {
                CHECK.due(token + " with " + part + " parts", machine.complete(), false);
                machine.feed(58);
                CHECK.due(token + " with an open part", machine.complete(), false);
                machine.feed(101);
            }
            CHECK.due(token + " with all parts", machine.complete(), true);
            machine.undo();
            CHECK.due(token + " without its last token", machine.complete(), false);
        }
    }

    private static void freeDue(int want, int... tokens) {
        due("free() of " + java.util.Arrays.toString(tokens), fed(tokens).free(), want);
    }

    private static void free() {
        for (int x = 0; x < 6; x++) {
            freeDue(1 << x, 30 + x);
            freeDue(0, 40 + x, 30 + x);
            freeDue(0, 70 + x, 30 + x);
            freeDue(0, 60 + x, 101, 30 + x);
            freeDue(1 << x, 60 + x, 30 + x, 101);
            freeDue(1 << x, 53, 40 + x, 30 + x, 30 + x);
            freeDue(1 << x, 53, 60 + x, 101, 102, 30 + x);
            freeDue(1 << x, 53, 70 + x, 101, 30 + x);
            freeDue(1 << x, 40 + (x + 1) % 6, 30 + x);
        }
        freeDue(63, 53, 30, 53, 31, 53, 32, 53, 33, 53, 34, 35);
        freeDue(0, 101);
        freeDue(0, 40, 101);
        freeDue(0, 40, 41, 42, 53, 30, 53, 31, 32);
        freeDue(2, 40, 60, 31, 57, 30, 30, 30);
        freeDue(0, 40, 60, 30, 30);
        freeDue(1, 60, 60, 30, 30, 30);
        freeDue(BAD, 53, 30);
        freeDue(BAD, 40);
        SegmentMachine wrong = ran(33);
        due("a name without a value", wrong.status(), SegmentMachine.WRONG);
        due("free() after a run", wrong.free(), 8);
        due("status() after free()", wrong.status(), SegmentMachine.WRONG);
    }

    private static void run() {
        SegmentMachine machine = fed(BUSY);
        int[] outside = {0, -1, 1001, Integer.MIN_VALUE, Integer.MAX_VALUE};
        for (int room : outside) {
            due("run(" + room + ")", machine.run(room), BAD);
            CHECK.nothingHasRun("after run(" + room + ")", machine);
        }
        due("run(1)", machine.run(1), SegmentMachine.DONE);
        for (int room : outside) {
            due("run(" + room + ")", machine.run(room), BAD);
            busyRunStands("after run(" + room + ")", machine);
        }
        due("run(1000)", machine.run(1000), SegmentMachine.DONE);
        busyRunStands("run again", machine);
        machine.undo();
        due("run of a part", machine.run(1), BAD);
        due("run of a part out of range", machine.run(0), BAD);
        due("run: WRONG", fed(52, 101, 101).run(9), SegmentMachine.WRONG);
    }

    private static void busyRunStands(String what, SegmentMachine machine) {
        due(what + ": status()", machine.status(), SegmentMachine.DONE);
        due(what + ": kind()", machine.kind(), 1);
        due(what + ": number()", machine.number(), 25);
        due(what + ": outs()", machine.outs(), 1);
        due(what + ": out(0)", machine.out(0), 5);
        due(what + ": calls()", machine.calls(), 2);
        due(what + ": shifts()", machine.shifts(), 1);
        due(what + ": deepest()", machine.deepest(), 6);
        due(what + ": the list", machine.token(BUSY.length - 1), 105);
    }

    // Sums 1 .. 6 by calling itself, so that old cells are needed while new ones are taken.
    private static void roomMakesNoDifference() {
        SegmentMachine machine = fed(60, 40, 41, 57, 56, 31, 101, 100, 53, 58, 31, 52, 52, 30, 30,
            54, 31, 101, 52, 52, 30, 30, 106);
        for (int room = 1; room <= 1000; room = room < 60 ? room + 1 : room + 47) {
            due("run(" + room + ")", machine.run(room), SegmentMachine.DONE);
            due("number() at room " + room, machine.number(), 21);
            due("outs() at room " + room, machine.outs(), 6);
            due("calls() at room " + room, machine.calls(), 14);
            due("deepest() at room " + room, machine.deepest(), 9);
        }
    }

    private static void status() {
        due("status() DONE", ran(101).status(), SegmentMachine.DONE);
        due("status() WRONG", ran(30).status(), SegmentMachine.WRONG);
        due("status() LONG", ran(52, 40, 52, 30, 30, 40, 52, 30, 30).status(), SegmentMachine.LONG);
        due("status() DEEP", ran(52, 40, 58, 52, 30, 30, 40, 58, 52, 30, 30).status(),
            SegmentMachine.DEEP);
        due("status() FULL", ran(52, 40, 52, 30, 30, 40, 61, 58, 101, 52, 30, 30).status(),
            SegmentMachine.FULL);
        due("status() before a run", fed(101).status(), SegmentMachine.NONE);
    }

    private static void kindAndNumber() {
        kindDue(1, -20, 80);
        kindDue(1, 20, 120);
        kindDue(1, 0, 100);
        kindDue(2, 0, 40, 101);
        kindDue(2, 0, 70, 30);
        kindDue(0, 0, 30);
        kindDue(0, 0, 53, 107, 33);
        kindDue(0, 0, 52, 40, 52, 30, 30, 40, 52, 30, 30);
        SegmentMachine machine = ran(53, 40, 101, 107);
        due("kind() after WRONG", machine.kind(), 0);
        due("number() after WRONG", machine.number(), 0);
    }

    private static void kindDue(int kind, int number, int... tokens) {
        SegmentMachine machine = ran(tokens);
        due("kind()", machine.kind(), kind);
        due("number()", machine.number(), number);
    }

    private static void outs() {
        SegmentMachine machine = ran(53, 58, 103, 53, 58, 98, 58, 100);
        due("outs()", machine.outs(), 3);
        int[] put = {3, -2, 0};
        for (int i = 0; i < put.length; i++) {
            due("out(" + i + ")", machine.out(i), put[i]);
        }
        int[] none = {-1, 3, 15, 16, 17, Integer.MIN_VALUE, Integer.MAX_VALUE};
        for (int i : none) {
            due("out(" + i + ")", machine.out(i), 0);
        }
        SegmentMachine wrong = ran(53, 58, 104, 30);
        due("outs() of a WRONG run", wrong.outs(), 1);
        due("out(0) of a WRONG run", wrong.out(0), 4);

        SegmentMachine second = ran(58, 58, 109);
        due("outs()", second.outs(), 2);
        due("undo", second.undo(), 109);
        due("feed", second.feed(98), 3);
        due("out(0) of a forgotten run", second.out(0), 0);
        due("run", second.run(1), SegmentMachine.DONE);
        due("outs() of the second run", second.outs(), 2);
        due("out(1) of the second run", second.out(1), -2);

        SegmentMachine full = ran(52, 40, 52, 30, 30, 40, 61, 58, 101, 52, 30, 30);
        due("outs() of a FULL run", full.outs(), 16);
        due("out(15) of a FULL run", full.out(15), 1);
        due("out(16) of a FULL run", full.out(16), 0);
    }

    private static void calls() {
        due("calls() of none", ran(101).calls(), 0);
        due("calls() of one", ran(52, 40, 30, 101).calls(), 1);
        due("calls() of a number", ran(52, 101, 101).calls(), 0);
        due("calls() of a segment", ran(70, 52, 30, 101).calls(), 1);
        due("calls() of LONG", ran(52, 40, 52, 30, 30, 40, 52, 30, 30).calls(), 40);
        due("calls() of DEEP", deepBySegment(2).calls(), 1);
    }

    private static void shifts() {
        due("shifts() of none", ran(59, 101).shifts(), 0);
        due("shifts() of one", ran(70, 101).shifts(), 1);
        due("shifts() in a body", ran(70, 71, 72, 101).shifts(), 3);
        SegmentMachine eight = ran(70, 71, 72, 73, 74, 75, 70, 71, 101);
        due("status() of eight SHIFTs", eight.status(), SegmentMachine.DONE);
        due("shifts() of eight", eight.shifts(), 8);
        SegmentMachine nine = ran(70, 71, 72, 73, 74, 75, 70, 71, 72, 101);
        due("status() of nine SHIFTs", nine.status(), SegmentMachine.LONG);
        due("shifts() of nine", nine.shifts(), 8);
    }

    private static void deepest() {
        due("deepest() of a number", ran(101).deepest(), 1);
        due("deepest() of a name without a value", ran(30).deepest(), 1);
        due("deepest() of a sum", ran(53, 101, 102).deepest(), 2);
        due("deepest() of a segment", ran(58, 70, 52, 30, 101).deepest(), 3);
        due("deepest() of DEEP", ran(52, 40, 58, 52, 30, 30, 40, 58, 52, 30, 30).deepest(), 16);
        due("deepest() of DEEP by a segment", deepBySegment(2).deepest(), 10);
        due("deepest() of a segment that just fits", deepBySegment(1).deepest(), 16);
    }

    // SHIFT takes seven terms; its function, called with 7 + outer pending, makes 8 more pending.
    private static SegmentMachine deepBySegment(int outer) {
        int[] tokens = new int[7 + 1 + 6 + outer + 3];
        java.util.Arrays.fill(tokens, 58);
        tokens[7] = 70;
        tokens[tokens.length - 3] = 52;
        tokens[tokens.length - 2] = 30;
        tokens[tokens.length - 1] = 101;
        SegmentMachine machine = ran(tokens);
        due("status() with " + outer, machine.status(),
            outer == 1 ? SegmentMachine.DONE : SegmentMachine.DEEP);
        return machine;
    }

    private static void refusedCallsChangeNothing() {
        SegmentMachine machine = ran(BUSY);
        int[] refused = {0, 36, 51, 66, 79, 121, -1};
        for (int token : refused) {
            due("feed(" + token + ")", machine.feed(token), BAD);
            busyRunStands("after feed(" + token + ")", machine);
        }
        due("feed to a whole term", machine.feed(101), FULL_LIST);
        busyRunStands("after FULL_LIST", machine);
        due("token after the last", machine.token(BUSY.length), BAD);
        SegmentMachine empty = new SegmentMachine();
        due("undo of nothing", empty.undo(), BAD);
        CHECK.nothingHasRun("after a refused undo", empty);
        due("feed after a refused undo", empty.feed(101), 1);
    }
}
