/** The sixteen promises, sentence by sentence, each with a test of its own. */
public final class PromisesTest {
    private static final int BAD = SegmentMachine.BAD;
    private static final int FULL_LIST = SegmentMachine.FULL_LIST;
    private static final int LEAST = Integer.MIN_VALUE;
    private static final int GREATEST = Integer.MAX_VALUE;
    private static final Check CHECK = new Check();

    // Puts 5 out, does one SHIFT and two calls of it, and comes to 25.
    private static final int[] BUSY = {53, 58, 105, 59, 55, 102, 70, 52, 30, 52, 30, 105};
    private static final int[] ENDS_WRONG = {53, 58, 104, 30};
    private static final int[] ENDS_LONG = {53, 58, 104, 52, 40, 52, 30, 30, 40, 52, 30, 30};
    private static final int[] ENDS_DEEP = {53, 58, 104, 52, 40, 59, 52, 30, 30, 40, 59, 52, 30, 30};
    private static final int[] ENDS_FULL = {52, 40, 52, 30, 30, 40, 61, 58, 101, 52, 30, 30};
    private static final int[][] EACH_ENDING = {BUSY, ENDS_WRONG, ENDS_LONG, ENDS_DEEP, ENDS_FULL};

    public static void main(String[] args) {
        aNewObject();
        feed();
        feedRefuses();
        undo();
        token();
        complete();
        free();
        freeRefuses();
        run();
        runRefuses();
        status();
        kind();
        number();
        outs();
        out();
        calls();
        shifts();
        deepest();
        refusedCallsChangeNothing();
        CHECK.end();
    }

    private static void sentence(String words, Runnable test) {
        CHECK.sentence(words, test);
    }

    private static void due(String what, long got, long want) {
        CHECK.due(what, got, want);
    }

    private static SegmentMachine fed(int... tokens) {
        return CHECK.fed(tokens);
    }

    private static SegmentMachine ran(int... tokens) {
        return CHECK.ran(tokens);
    }

    private static int[] times(int count, int... tokens) {
        return Programs.times(count, tokens);
    }

    private static void aNewObject() {
        sentence("1: No tokens", () -> {
            due("token(0)", new SegmentMachine().token(0), BAD);
            CHECK.due("complete()", new SegmentMachine().complete(), false);
            due("free()", new SegmentMachine().free(), BAD);
            due("run(1)", new SegmentMachine().run(1), BAD);
            due("undo()", new SegmentMachine().undo(), BAD);
            due("feed(101)", new SegmentMachine().feed(101), 1);
        });
        sentence("1: nothing has run", () -> CHECK.nothingHasRun("new", new SegmentMachine()));
        sentence("1: whatever other objects did", () -> {
            SegmentMachine before = new SegmentMachine();
            SegmentMachine busy = ran(BUSY);
            SegmentMachine after = new SegmentMachine();
            CHECK.nothingHasRun("made before", before);
            CHECK.nothingHasRun("made after", after);
            due("token(0)", after.token(0), BAD);
            due("feed(101)", after.feed(101), 1);
            due("run(1)", after.run(1), SegmentMachine.DONE);
            busyRunStands("beside others", busy);
        });
    }

    private static void feed() {
        sentence("2: Appends a token and answers how many there are", () -> {
            SegmentMachine machine = new SegmentMachine();
            for (int count = 1; count <= 32; count++) {
                due("feed to " + count, machine.feed(40 + count % 6), count);
                due("the token", machine.token(count - 1), 40 + count % 6);
            }
            due("the first token", machine.token(0), 41);
        });
        sentence("2: the last run is forgotten, as if nothing had run", () -> {
            for (int[] program : EACH_ENDING) {
                SegmentMachine machine = ran(program);
                int last = machine.undo();
                due("feed again", machine.feed(last), program.length);
                CHECK.nothingHasRun("after feed", machine);
            }
        });
    }

    private static void feedRefuses() {
        sentence("2: BAD when it is no token", () -> {
            for (int token = -300; token <= 400; token++) {
                boolean is = token >= 30 && token <= 35 || token >= 40 && token <= 45
                    || token >= 52 && token <= 65 || token >= 70 && token <= 75
                    || token >= 80 && token <= 120;
                due("feed(" + token + ")", new SegmentMachine().feed(token), is ? 1 : BAD);
            }
            int[] far = {LEAST, GREATEST, 65536 + 101, 256 + 101, -101, LEAST + 101};
            for (int token : far) {
                due("feed(" + token + ")", new SegmentMachine().feed(token), BAD);
            }
        });
        sentence("2: Tested in this order: BAD before FULL_LIST", () -> {
            int[] none = {0, -1, 29, 36, 51, 66, 79, 121, LEAST, GREATEST};
            for (int token : none) {
                due("to a whole term", fed(101).feed(token), BAD);
                due("to 32 tokens", fed(times(32, 58)).feed(token), BAD);
            }
        });
        sentence("2: FULL_LIST when the list is one whole term", () -> {
            SegmentMachine machine = fed(53, 101, 102);
            for (int token = 30; token <= 120; token++) {
                boolean is = new SegmentMachine().feed(token) == 1;
                due("feed(" + token + ")", machine.feed(token), is ? FULL_LIST : BAD);
            }
            due("to one token", fed(80).feed(101), FULL_LIST);
            due("to a name", fed(30).feed(101), FULL_LIST);
            due("to a function", fed(40, 30).feed(101), FULL_LIST);
            due("undo", machine.undo(), 102);
            due("feed after undo", machine.feed(110), 3);
            due("feed after that", machine.feed(110), FULL_LIST);
        });
        sentence("2: FULL_LIST when the list has 32 tokens", () -> {
            SegmentMachine machine = fed(times(31, 58));
            due("the 32nd", machine.feed(58), 32);
            due("the 33rd", machine.feed(101), FULL_LIST);
            CHECK.due("complete()", machine.complete(), false);
            due("token(32)", machine.token(32), BAD);
            due("undo", machine.undo(), 58);
            due("the 32nd again", machine.feed(107), 32);
            due("the 33rd again", machine.feed(101), FULL_LIST);
            CHECK.due("complete()", machine.complete(), true);
        });
    }

    private static void undo() {
        sentence("3: Takes the last token away and answers it", () -> {
            SegmentMachine machine = fed(BUSY);
            for (int left = BUSY.length - 1; left >= 0; left--) {
                due("undo to " + left, machine.undo(), BUSY[left]);
                due("token taken away", machine.token(left), BAD);
                due("the token before", machine.token(left - 1), left == 0 ? BAD : BUSY[left - 1]);
            }
            due("feed", machine.feed(80), 1);
            due("undo of -20", machine.undo(), 80);
            SegmentMachine full = fed(times(32, 59));
            due("undo at 32", full.undo(), 59);
            due("token(31)", full.token(31), BAD);
            due("token(30)", full.token(30), 59);
        });
        sentence("3: the last run is forgotten", () -> {
            for (int[] program : EACH_ENDING) {
                SegmentMachine machine = ran(program);
                machine.undo();
                CHECK.nothingHasRun("after undo", machine);
            }
        });
        sentence("3: BAD when there is none", () -> {
            SegmentMachine machine = new SegmentMachine();
            due("undo of a new object", machine.undo(), BAD);
            due("undo again", machine.undo(), BAD);
            due("feed", machine.feed(53), 1);
            due("feed", machine.feed(101), 2);
            due("undo", machine.undo(), 101);
            due("undo", machine.undo(), 53);
            due("undo of an empty list", machine.undo(), BAD);
        });
    }

    private static void token() {
        sentence("4: Token i", () -> {
            SegmentMachine machine = ran(BUSY);
            for (int i = 0; i < BUSY.length; i++) {
                due("token(" + i + ")", machine.token(i), BUSY[i]);
            }
            SegmentMachine full = fed(Programs.joined(times(31, 58), Programs.list(107)));
            due("token(0)", full.token(0), 58);
            due("token(31)", full.token(31), 107);
        });
        sentence("4: BAD when there is none", () -> {
            SegmentMachine machine = fed(BUSY);
            int[] none = {-1, BUSY.length, BUSY.length + 1, 31, 32, 33, -32, LEAST, GREATEST};
            for (int i : none) {
                due("token(" + i + ")", machine.token(i), BAD);
                due("token(" + i + ") of none", new SegmentMachine().token(i), BAD);
            }
            SegmentMachine full = fed(times(32, 58));
            due("token(32) of 32", full.token(32), BAD);
            due("token(-1) of 32", full.token(-1), BAD);
            machine.undo();
            due("token taken away", machine.token(BUSY.length - 1), BAD);
        });
    }

    private static void complete() {
        int[][] groups = {{30, 35, 0}, {40, 45, 1}, {52, 56, 2}, {57, 57, 3}, {58, 59, 1},
            {60, 65, 2}, {70, 75, 1}, {80, 120, 0}};
        for (int[] group : groups) {
            sentence("5: " + group[0] + " .. " + group[1] + " take " + group[2] + " parts", () -> {
                for (int token = group[0]; token <= group[1]; token++) {
                    partsNeeded(group[2], token);
                }
            });
        }
        sentence("5: an empty list is no whole term", () -> {
            CHECK.due("new", new SegmentMachine().complete(), false);
            SegmentMachine machine = fed(101);
            machine.undo();
            CHECK.due("after undo", machine.complete(), false);
        });
        sentence("5: a list of 32 tokens is a whole term or is not", () -> {
            CHECK.due("not", fed(times(32, 58)).complete(), false);
            int[] nested = Programs.joined(times(31, 58), Programs.list(101));
            CHECK.due("whole", fed(nested).complete(), true);
            int[] sums = Programs.joined(Programs.list(58), times(15, 53), times(16, 101));
            CHECK.due("whole, of sums", fed(sums).complete(), true);
        });
        sentence("5: every list that is cut off is not", () -> {
            SegmentMachine machine = new SegmentMachine();
            for (int i = 0; i < BUSY.length; i++) {
                CHECK.due("complete() at " + i, machine.complete(), false);
                machine.feed(BUSY[i]);
            }
            CHECK.due("complete() at the end", machine.complete(), true);
        });
    }

    private static void partsNeeded(int parts, int token) {
        SegmentMachine machine = fed(token);
        for (int part = 0; part < parts; part++) {
            CHECK.due(token + " with " + part + " parts", machine.complete(), false);
            machine.feed(58);
            CHECK.due(token + " with an open part", machine.complete(), false);
            machine.feed(101);
        }
        CHECK.due(token + " with all parts", machine.complete(), true);
        machine.undo();
        CHECK.due(token + " without its last token", machine.complete(), false);
    }

    private static void freeDue(int want, int... tokens) {
        due("free() of " + java.util.Arrays.toString(tokens), fed(tokens).free(), want);
    }

    private static void free() {
        sentence("6: bit x for name x", () -> {
            for (int x = 0; x < 6; x++) {
                freeDue(1 << x, 30 + x);
            }
            freeDue(63, 53, 30, 53, 31, 53, 32, 53, 33, 53, 34, 35);
            freeDue(33, 53, 35, 53, 30, 53, 35, 30);
        });
        sentence("6: that occur in the program, in 30 + x", () -> {
            freeDue(0, 101);
            for (int x = 0; x < 6; x++) {
                freeDue(0, 40 + x, 101);
                freeDue(0, 60 + x, 101, 102);
                freeDue(0, 70 + x, 101);
            }
        });
        sentence("6: nothing around: a function gives a value in its body alone", () -> {
            for (int x = 0; x < 6; x++) {
                freeDue(0, 40 + x, 30 + x);
                freeDue(1 << x, 53, 40 + x, 30 + x, 30 + x);
                freeDue(1 << x, 40 + (x + 1) % 6, 30 + x);
            }
            freeDue(0, 40, 41, 42, 53, 30, 53, 31, 32);
        });
        sentence("6: nothing around: 60 gives a value in b alone", () -> {
            for (int x = 0; x < 6; x++) {
                freeDue(0, 60 + x, 101, 30 + x);
                freeDue(1 << x, 60 + x, 30 + x, 101);
                freeDue(1 << x, 53, 60 + x, 101, 102, 30 + x);
                freeDue(1 << x, 60 + (x + 1) % 6, 101, 30 + x);
            }
            freeDue(0, 40, 60, 30, 30);
            freeDue(1, 60, 60, 30, 30, 30);
        });
        sentence("6: nothing around: SHIFT gives a value in a alone", () -> {
            for (int x = 0; x < 6; x++) {
                freeDue(0, 70 + x, 30 + x);
                freeDue(1 << x, 53, 70 + x, 101, 30 + x);
                freeDue(1 << x, 70 + (x + 1) % 6, 30 + x);
            }
        });
        sentence("6: also in what would not be worked out", () -> {
            freeDue(24, 57, 100, 33, 57, 101, 102, 34);
            freeDue(4, 40, 57, 30, 30, 32);
            freeDue(2, 40, 60, 31, 57, 30, 30, 30);
        });
        sentence("6: in a list of 32 tokens", () -> {
            int[] six = {53, 30, 53, 31, 53, 32, 53, 33, 53, 34, 35};
            freeDue(63, Programs.joined(times(21, 58), six));
            freeDue(31, Programs.joined(times(20, 58), Programs.list(45), six));
        });
        sentence("6: asking changes nothing", () -> {
            SegmentMachine machine = ran(BUSY);
            due("free()", machine.free(), 0);
            busyRunStands("after free()", machine);
            SegmentMachine wrong = ran(33);
            due("free()", wrong.free(), 8);
            due("status()", wrong.status(), SegmentMachine.WRONG);
        });
    }

    private static void freeRefuses() {
        sentence("6: BAD when the list is not complete", () -> {
            due("free() of none", new SegmentMachine().free(), BAD);
            freeDue(BAD, 53, 30);
            freeDue(BAD, 40);
            freeDue(BAD, 57, 30, 31);
            freeDue(BAD, times(32, 58));
        });
    }

    private static void run() {
        sentence("7: Answers how the run ends", () -> {
            for (int i = 0; i < EACH_ENDING.length; i++) {
                due("run(9)", fed(EACH_ENDING[i]).run(9), SegmentMachine.DONE + i);
            }
        });
        sentence("7: after every so many (1 .. 1000) cells, which makes no difference", () -> {
            // Sums 1 .. 6 by calling itself: old cells are needed while new ones are taken.
            int[] sums = {60, 40, 41, 57, 56, 31, 101, 100, 53, 58, 31, 52, 52, 30, 30,
                54, 31, 101, 52, 52, 30, 30, 106};
            for (int room = 1; room <= 1000; room++) {
                SegmentMachine machine = fed(sums);
                due("run(" + room + ")", machine.run(room), SegmentMachine.DONE);
                due("number() at room " + room, machine.number(), 21);
                due("outs() at room " + room, machine.outs(), 6);
                due("calls() at room " + room, machine.calls(), 14);
                due("deepest() at room " + room, machine.deepest(), 9);
            }
        });
        sentence("7: collects what is not used any more: not what is still used", () -> {
            // By the name of a pending term.
            stillUsed(22, 60, 107, 53, 61, 101, 31, 53, 61, 102, 31, 53, 61, 103, 31,
                53, 61, 104, 31, 53, 61, 105, 31, 30);
            // By a function that is the first value of a pending term.
            stillUsed(17, 52, 60, 107, 41, 53, 30, 31, 60, 101, 60, 102, 60, 103, 110);
            // By a function that a name has.
            stillUsed(17, 62, 60, 107, 41, 53, 30, 31, 60, 101, 60, 102, 60, 103, 52, 32, 110);
            // By the names of what a SHIFT took, and by its first values.
            stillUsed(17, 61, 60, 107, 59, 53, 72, 32, 30, 60, 101, 60, 102, 60, 103, 52, 31, 110);
            stillUsed(17, 61, 59, 52, 60, 107, 41, 53, 30, 31, 72, 32, 60, 101, 60, 102, 60, 103,
                52, 31, 110);
            // By what a SHIFT took inside what another SHIFT took.
            stillUsed(19, 61, 59, 52, 59, 60, 107, 53, 72, 32, 30, 53, 102, 72, 32,
                60, 101, 60, 102, 60, 103, 52, 31, 110);
            // By names further out.
            stillUsed(15, 60, 101, 61, 102, 62, 103, 63, 104, 64, 105,
                53, 30, 53, 31, 53, 32, 53, 33, 34);
        });
        sentence("7: no difference, on one object and however often it runs", () -> {
            SegmentMachine machine = fed(BUSY);
            int[] rooms = {1, 1000, 2, 999, 3, 1, 500};
            for (int room : rooms) {
                due("run(" + room + ")", machine.run(room), SegmentMachine.DONE);
                busyRunStands("run(" + room + ")", machine);
            }
        });
        sentence("7: no difference, whatever ran before on the object", () -> {
            int[] before = {53, 60, 101, 30, 60, 102, 30};
            int[] after = {60, 107, 61, 101, 62, 102, 63, 103, 53, 30, 53, 31, 53, 32, 33};
            for (int room = 1; room <= 5; room++) {
                SegmentMachine machine = fed(before);
                due("run(" + room + ") before", machine.run(room), SegmentMachine.DONE);
                due("number() before", machine.number(), 3);
                for (int i = 0; i < before.length; i++) {
                    machine.undo();
                }
                for (int token : after) {
                    machine.feed(token);
                }
                due("run(" + room + ") after", machine.run(room), SegmentMachine.DONE);
                due("number() after", machine.number(), 13);
            }
        });
        sentence("7: a program of 32 tokens, and one of a single token", () -> {
            int[] sums = Programs.joined(Programs.list(58), times(14, 53), times(14, 101),
                Programs.list(59, 58, 101));
            due("run(1)", fed(sums).run(1), SegmentMachine.DONE);
            due("number()", ran(sums).number(), 15);
            due("run(1)", fed(100).run(1), SegmentMachine.DONE);
        });
    }

    private static void stillUsed(int number, int... program) {
        CHECK.comesTo(program, SegmentMachine.DONE, number);
    }

    private static void runRefuses() {
        int[] outside = {0, -1, 1001, 1002, LEAST, GREATEST};
        sentence("7: BAD, changing nothing, when room is out of range", () -> {
            SegmentMachine machine = fed(BUSY);
            for (int room : outside) {
                due("run(" + room + ")", machine.run(room), BAD);
                CHECK.nothingHasRun("after run(" + room + ")", machine);
            }
            due("run(1)", machine.run(1), SegmentMachine.DONE);
            for (int room : outside) {
                due("run(" + room + ")", machine.run(room), BAD);
                busyRunStands("after run(" + room + ")", machine);
            }
            due("run(1000)", machine.run(1000), SegmentMachine.DONE);
        });
        sentence("7: BAD, changing nothing, when the list is not complete", () -> {
            SegmentMachine machine = new SegmentMachine();
            for (int i = 0; i < BUSY.length; i++) {
                due("run(1) at " + i, machine.run(1), BAD);
                due("run(1000) at " + i, machine.run(1000), BAD);
                due("run(0) at " + i, machine.run(0), BAD);
                CHECK.nothingHasRun("at " + i, machine);
                due("feed", machine.feed(BUSY[i]), i + 1);
            }
            due("run(1) at the end", machine.run(1), SegmentMachine.DONE);
            due("run(1) of 32 tokens", fed(times(32, 58)).run(1), BAD);
        });
    }

    private static void busyRunStands(String what, SegmentMachine machine) {
        due(what + ": status()", machine.status(), SegmentMachine.DONE);
        due(what + ": kind()", machine.kind(), 1);
        due(what + ": number()", machine.number(), 25);
        due(what + ": outs()", machine.outs(), 1);
        due(what + ": out(0)", machine.out(0), 5);
        due(what + ": calls()", machine.calls(), 2);
        due(what + ": shifts()", machine.shifts(), 1);
        due(what + ": deepest()", machine.deepest(), 6);
        for (int i = 0; i < BUSY.length; i++) {
            due(what + ": token(" + i + ")", machine.token(i), BUSY[i]);
        }
        due(what + ": the token after the last", machine.token(BUSY.length), BAD);
    }

    private static void status() {
        sentence("8: How the last run ended", () -> {
            for (int i = 0; i < EACH_ENDING.length; i++) {
                due("status()", ran(EACH_ENDING[i]).status(), SegmentMachine.DONE + i);
            }
            SegmentMachine machine = ran(53, 101, 30);
            due("status()", machine.status(), SegmentMachine.WRONG);
            machine.undo();
            machine.feed(102);
            machine.run(1);
            due("status() of the last run", machine.status(), SegmentMachine.DONE);
        });
        sentence("8: NONE when there was none", () -> {
            due("of a new object", new SegmentMachine().status(), SegmentMachine.NONE);
            due("of a whole term", fed(101).status(), SegmentMachine.NONE);
            SegmentMachine refused = fed(101);
            refused.run(0);
            due("after a refused run", refused.status(), SegmentMachine.NONE);
            SegmentMachine forgotten = ran(101);
            forgotten.undo();
            due("of a forgotten run", forgotten.status(), SegmentMachine.NONE);
        });
    }

    private static void kind() {
        sentence("9: 1 a number", () -> {
            int[] numbers = {80, 99, 100, 101, 120};
            for (int token : numbers) {
                due("kind()", ran(token).kind(), 1);
            }
            due("kind() of the least", ran(Programs.withLeast(30)).kind(), 1);
        });
        sentence("9: 2 a function", () -> {
            due("kind() of a function", ran(40, 101).kind(), 2);
            due("kind() of the last function", ran(60, 101, 45, 101).kind(), 2);
            due("kind() of what a SHIFT took", ran(70, 30).kind(), 2);
            due("kind() of what it took", ran(53, 101, 70, 30).kind(), 2);
        });
        sentence("9: 0 when it was not DONE", () -> {
            due("kind() of none", new SegmentMachine().kind(), 0);
            due("kind() before a run", fed(101).kind(), 0);
            for (int i = 1; i < EACH_ENDING.length; i++) {
                due("kind()", ran(EACH_ENDING[i]).kind(), 0);
            }
            due("kind() at a function", ran(53, 40, 101, 107).kind(), 0);
        });
    }

    private static void number() {
        sentence("10: The number that the last run came to", () -> {
            for (int n = -20; n <= 20; n++) {
                due("number()", ran(100 + n).number(), n);
            }
            due("the least", ran(Programs.withLeast(30)).number(), LEAST);
            due("the greatest", ran(Programs.withLeast(54, 30, 101)).number(), GREATEST);
        });
        sentence("10: 0 when it did not come to one", () -> {
            due("number() of none", new SegmentMachine().number(), 0);
            due("number() before a run", fed(107).number(), 0);
            due("number() of a function", ran(60, 107, 45, 107).number(), 0);
            due("number() of what a SHIFT took", ran(53, 107, 70, 30).number(), 0);
            for (int i = 1; i < EACH_ENDING.length; i++) {
                due("number()", ran(EACH_ENDING[i]).number(), 0);
            }
            due("number() of WRONG at a number", ran(53, 40, 101, 107).number(), 0);
            SegmentMachine forgotten = ran(107);
            forgotten.undo();
            due("number() of a forgotten run", forgotten.number(), 0);
        });
    }

    private static void outs() {
        sentence("11: The number of numbers that the last run put out", () -> {
            due("outs() of none", ran(101).outs(), 0);
            due("outs() of three", ran(53, 58, 103, 53, 58, 98, 58, 100).outs(), 3);
            due("outs() of sixteen", ran(Programs.putDown(16, 101)).outs(), 16);
            due("outs() of WRONG", ran(ENDS_WRONG).outs(), 1);
            due("outs() of LONG", ran(ENDS_LONG).outs(), 1);
            due("outs() of DEEP", ran(ENDS_DEEP).outs(), 1);
            due("outs() of FULL", ran(ENDS_FULL).outs(), 16);
        });
        sentence("11: of the last run alone", () -> {
            due("outs() of a new object", new SegmentMachine().outs(), 0);
            SegmentMachine machine = ran(58, 58, 109);
            machine.run(1);
            due("outs() of the second run", machine.outs(), 2);
            machine.undo();
            due("outs() of a forgotten run", machine.outs(), 0);
            machine.feed(70);
            machine.feed(101);
            machine.run(1);
            due("outs() of a run that puts nothing out", machine.outs(), 0);
        });
    }

    private static void out() {
        sentence("12: Number i (0 the first) that it put out", () -> {
            SegmentMachine machine = ran(53, 58, 103, 53, 58, 98, 58, 107);
            int[] put = {3, -2, 7};
            for (int i = 0; i < put.length; i++) {
                due("out(" + i + ")", machine.out(i), put[i]);
            }
            SegmentMachine sixteen = ran(Programs.putDown(16, 101));
            for (int i = 0; i < 16; i++) {
                due("out(" + i + ") of sixteen", sixteen.out(i), 16 - i);
            }
            SegmentMachine full = ran(ENDS_FULL);
            due("out(0) of FULL", full.out(0), 1);
            due("out(15) of FULL", full.out(15), 1);
        });
        sentence("12: 0 when there is none", () -> {
            int[] none = {-1, 1, 2, 15, 16, 17, -16, LEAST, GREATEST};
            SegmentMachine machine = ran(58, 107);
            SegmentMachine full = ran(ENDS_FULL);
            for (int i : none) {
                due("out(" + i + ")", machine.out(i), 0);
                due("out(" + i + ") of none", new SegmentMachine().out(i), 0);
                due("out(" + i + ") of sixteen", full.out(i), i > 0 && i < 16 ? 1 : 0);
            }
            machine.undo();
            due("out(0) of a forgotten run", machine.out(0), 0);
        });
        sentence("12: none of a run before it", () -> {
            SegmentMachine machine = ran(58, 58, 109);
            machine.undo();
            machine.undo();
            machine.feed(98);
            machine.run(1);
            due("out(0)", machine.out(0), -2);
            due("out(1)", machine.out(1), 0);
        });
    }

    private static void calls() {
        sentence("13: The number of calls that the last run made", () -> {
            due("calls() of a new object", new SegmentMachine().calls(), 0);
            due("calls() of none", ran(101).calls(), 0);
            due("calls() of one", ran(52, 40, 30, 101).calls(), 1);
            due("calls() of what a SHIFT took", ran(70, 52, 30, 101).calls(), 1);
            due("calls() of a number", ran(52, 101, 101).calls(), 0);
            due("calls() of forty", ran(Programs.countDown(19, 101)).calls(), 40);
            SegmentMachine machine = ran(BUSY);
            machine.run(1);
            due("calls() of the second run", machine.calls(), 2);
        });
        sentence("13: one that ended it DEEP too", () -> {
            due("with fifteen taken", deepCall(15, 0).calls(), 1);
            due("with seven taken", deepCall(7, 8).calls(), 1);
            due("with one taken", deepCall(1, 14).calls(), 1);
        });
        sentence("13: one that ended it LONG not", () -> {
            due("of a function", ran(ENDS_LONG).calls(), 40);
            due("of what a SHIFT took", ran(Programs.countDown(19, 70, 52, 30, 101)).calls(), 40);
        });
    }

    // A SHIFT takes some terms; what it took is called with so many more pending that one is over.
    private static SegmentMachine deepCall(int taken, int more) {
        SegmentMachine machine = ran(Programs.joined(times(taken, 58), Programs.list(70),
            times(more, 58), Programs.list(52, 30, 101)));
        due("status()", machine.status(), SegmentMachine.DEEP);
        return machine;
    }

    private static void shifts() {
        sentence("14: The number of SHIFTs that it did", () -> {
            due("shifts() of a new object", new SegmentMachine().shifts(), 0);
            due("shifts() of none", ran(59, 101).shifts(), 0);
            due("shifts() of one", ran(70, 101).shifts(), 1);
            due("shifts() inside one another", ran(70, 71, 72, 101).shifts(), 3);
            due("shifts() not come to", ran(57, 101, 101, 70, 101).shifts(), 0);
            due("shifts() of eight", ran(Programs.joined(times(8, 70), times(1, 101))).shifts(), 8);
            SegmentMachine machine = ran(BUSY);
            machine.run(1);
            due("shifts() of the second run", machine.shifts(), 1);
        });
        sentence("14: one that ended it LONG not", () -> {
            SegmentMachine nine = ran(Programs.joined(times(9, 70), times(1, 101)));
            due("status() of nine", nine.status(), SegmentMachine.LONG);
            due("shifts() of nine", nine.shifts(), 8);
        });
    }

    private static void deepest() {
        sentence("15: The greatest number of terms pending at the same time", () -> {
            due("deepest() of a sum", ran(53, 101, 102).deepest(), 2);
            due("deepest() of sums", ran(53, 53, 101, 102, 53, 103, 53, 104, 105).deepest(), 4);
            due("deepest() of deeper first", ran(53, 58, 58, 101, 102).deepest(), 4);
            due("deepest() of sixteen",
                ran(Programs.joined(times(15, 58), times(1, 101))).deepest(), 16);
            due("deepest() of what a SHIFT took", ran(58, 70, 52, 30, 101).deepest(), 3);
            SegmentMachine machine = ran(58, 58, 109);
            machine.undo();
            machine.undo();
            machine.feed(109);
            machine.run(1);
            due("deepest() of the last run alone", machine.deepest(), 2);
        });
        sentence("15: the RESET around the program among them", () -> {
            due("deepest() of a number", ran(101).deepest(), 1);
            due("deepest() of a name without a value", ran(30).deepest(), 1);
            due("deepest() of a RESET", ran(59, 101).deepest(), 2);
        });
        sentence("15: what would have been pending in a DEEP run is not among them", () -> {
            due("of a term", ran(ENDS_DEEP).deepest(), 16);
            due("with fifteen taken", deepCall(15, 0).deepest(), 16);
            due("with seven taken", deepCall(7, 8).deepest(), 10);
            due("with one taken", deepCall(1, 14).deepest(), 16);
        });
        sentence("15: 0 when there was none", () -> {
            due("of a new object", new SegmentMachine().deepest(), 0);
            due("of a whole term", fed(101).deepest(), 0);
            SegmentMachine machine = fed(101);
            machine.run(1001);
            due("after a refused run", machine.deepest(), 0);
            machine.run(1);
            machine.undo();
            due("of a forgotten run", machine.deepest(), 0);
        });
    }

    private static void refusedCallsChangeNothing() {
        int[] none = {0, 29, 36, 39, 46, 51, 66, 69, 76, 79, 121, -1, LEAST, GREATEST};
        sentence("16: feed that answers BAD changes nothing; the last run stays", () -> {
            SegmentMachine machine = ran(BUSY);
            for (int token : none) {
                due("feed(" + token + ")", machine.feed(token), BAD);
                busyRunStands("after feed(" + token + ")", machine);
            }
            SegmentMachine part = fed(53, 101);
            for (int token : none) {
                due("feed(" + token + ")", part.feed(token), BAD);
            }
            due("token(2)", part.token(2), BAD);
            due("feed(102)", part.feed(102), 3);
        });
        sentence("16: feed that answers FULL_LIST changes nothing; the last run stays", () -> {
            SegmentMachine machine = ran(BUSY);
            int[] whole = {101, 53, 30, 80, 120, 70};
            for (int token : whole) {
                due("feed(" + token + ")", machine.feed(token), FULL_LIST);
                busyRunStands("after feed(" + token + ")", machine);
            }
            SegmentMachine full = fed(times(32, 58));
            due("feed(101)", full.feed(101), FULL_LIST);
            due("token(31)", full.token(31), 58);
            due("token(32)", full.token(32), BAD);
            due("undo", full.undo(), 58);
            due("feed(101)", full.feed(101), 32);
        });
        sentence("16: undo that answers BAD changes nothing", () -> {
            SegmentMachine machine = ran(101);
            machine.undo();
            for (int again = 0; again < 40; again++) {
                due("undo", machine.undo(), BAD);
            }
            CHECK.nothingHasRun("after undo", machine);
            CHECK.due("complete()", machine.complete(), false);
            due("token(0)", machine.token(0), BAD);
            due("feed(102)", machine.feed(102), 1);
            due("run(1)", machine.run(1), SegmentMachine.DONE);
            due("number()", machine.number(), 2);
        });
        sentence("16: each ending stays after refused calls", () -> {
            for (int[] program : EACH_ENDING) {
                SegmentMachine machine = ran(program);
                SegmentMachine same = ran(program);
                machine.feed(0);
                machine.feed(101);
                machine.run(0);
                due("status()", machine.status(), same.status());
                due("outs()", machine.outs(), same.outs());
                due("out(0)", machine.out(0), same.out(0));
                due("calls()", machine.calls(), same.calls());
                due("shifts()", machine.shifts(), same.shifts());
                due("deepest()", machine.deepest(), same.deepest());
            }
        });
    }
}
