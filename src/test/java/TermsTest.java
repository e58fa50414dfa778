/** The sentences of "Terms" up to SHIFT, each with a test of its own; all worked out by hand. */
public final class TermsTest {
    private static final int DONE = SegmentMachine.DONE;
    private static final int WRONG = SegmentMachine.WRONG;
    private static final int BAD = SegmentMachine.BAD;
    private static final int LEAST = Integer.MIN_VALUE;
    private static final int GREATEST = Integer.MAX_VALUE;
    private static final Check CHECK = new Check();

    public static void main(String[] args) {
        tokens();
        operations();
        namesHaveValues();
        whatMustBeANumber();
        whenThisIsTested();
        whatIsPending();
        shift();
        calledSegments();
        CHECK.end();
    }

    private static void sentence(String words, Runnable test) {
        CHECK.sentence(words, test);
    }

    private static int[] list(int... tokens) {
        return tokens;
    }

    private static int[] joined(int[]... lists) {
        return Programs.joined(lists);
    }

    private static int[] times(int count, int... tokens) {
        return Programs.times(count, tokens);
    }

    private static int[] withLeast(int... body) {
        return Programs.withLeast(body);
    }

    private static void comesTo(int[] program, int status, int number, int... outs) {
        CHECK.comesTo(program, status, number, outs);
    }

    private static void deepest(int[] program, int want) {
        SegmentMachine machine = CHECK.ran(program);
        CHECK.due("run", machine.status(), DONE);
        CHECK.due("deepest()", machine.deepest(), want);
    }

    private static void taken(int... tokens) {
        for (int token : tokens) {
            CHECK.due("feed(" + token + ")", new SegmentMachine().feed(token), 1);
        }
    }

    private static void refused(int... tokens) {
        for (int token : tokens) {
            CHECK.due("feed(" + token + ")", new SegmentMachine().feed(token), BAD);
        }
    }

    private static void tokens() {
        sentence("Names are 0 .. 5: in 30 + x", () -> {
            taken(30, 31, 32, 33, 34, 35);
            refused(29, 36, 37, 38, 39);
        });
        sentence("Names are 0 .. 5: in 40 + x", () -> {
            taken(40, 41, 42, 43, 44, 45);
            refused(39, 46, 47, 48, 49);
        });
        sentence("Names are 0 .. 5: in 60 + x", () -> {
            taken(60, 61, 62, 63, 64, 65);
            refused(66, 67, 68, 69);
        });
        sentence("Names are 0 .. 5: in 70 + x", () -> {
            taken(70, 71, 72, 73, 74, 75);
            refused(69, 76, 77, 78, 79);
        });
        sentence("Names are 0 .. 5, each with a value of its own", () ->
            comesTo(list(60, 101, 61, 102, 62, 103, 63, 104, 64, 105, 65, 106,
                54, 30, 55, 31, 54, 32, 55, 33, 54, 34, 35), DONE, -13));
        sentence("52 to 59 are the tokens of operations", () -> {
            taken(52, 53, 54, 55, 56, 57, 58, 59);
            refused(50, 51);
        });
        sentence("100 + n is the number n (-20 .. 20)", () -> {
            for (int n = -20; n <= 20; n++) {
                comesTo(list(100 + n), DONE, n);
            }
            refused(79, 121);
        });
    }

    private static void operations() {
        sentence("arithmetic wraps: 53", () -> {
            comesTo(withLeast(30), DONE, LEAST);
            comesTo(withLeast(53, 30, 99), DONE, GREATEST);
            comesTo(withLeast(53, 53, 30, 99, 101), DONE, LEAST);
            comesTo(withLeast(53, 30, 30), DONE, 0);
        });
        sentence("arithmetic wraps: 54", () -> {
            comesTo(withLeast(54, 30, 101), DONE, GREATEST);
            comesTo(withLeast(54, 100, 30), DONE, LEAST);
            comesTo(withLeast(54, 54, 30, 101, 99), DONE, LEAST);
        });
        sentence("arithmetic wraps: 55", () -> {
            comesTo(withLeast(55, 30, 99), DONE, LEAST);
            comesTo(withLeast(55, 30, 102), DONE, 0);
            comesTo(withLeast(55, 54, 30, 101, 54, 30, 101), DONE, 1);
            // Name 0 is 400, then 160000, then its square, then twenty times that.
            comesTo(list(60, 55, 120, 120, 60, 55, 30, 30, 60, 55, 30, 30, 55, 120, 30),
                DONE, 898891776);
        });
        sentence("arithmetic wraps: what is put out", () -> {
            comesTo(withLeast(58, 30), DONE, LEAST, LEAST);
            comesTo(withLeast(58, 54, 30, 101), DONE, GREATEST, GREATEST);
        });
        sentence("53 a b: the sum of a and b", () -> {
            comesTo(list(53, 103, 96), DONE, -1);
            comesTo(list(53, 120, 120), DONE, 40);
        });
        sentence("54 a b: a minus b", () -> {
            comesTo(list(54, 103, 105), DONE, -2);
            comesTo(list(54, 80, 120), DONE, -40);
        });
        sentence("55 a b: the product", () -> {
            comesTo(list(55, 97, 107), DONE, -21);
            comesTo(list(55, 80, 80), DONE, 400);
        });
        sentence("56 a b: 1 when a is less than b, else 0", () -> {
            comesTo(list(56, 101, 102), DONE, 1);
            comesTo(list(56, 102, 102), DONE, 0);
            comesTo(list(56, 103, 102), DONE, 0);
            comesTo(list(56, 80, 120), DONE, 1);
            comesTo(withLeast(56, 30, 54, 30, 101), DONE, 1);
            comesTo(withLeast(56, 54, 30, 101, 30), DONE, 0);
            comesTo(withLeast(56, 30, 101), DONE, 1);
            comesTo(withLeast(56, 101, 30), DONE, 0);
            comesTo(withLeast(56, 30, 30), DONE, 0);
        });
        sentence("57 a b c: b when a is not 0, else c", () -> {
            comesTo(list(57, 100, 101, 102), DONE, 2);
            comesTo(list(57, 101, 101, 102), DONE, 1);
            comesTo(list(57, 99, 101, 102), DONE, 1);
            comesTo(list(57, 120, 101, 102), DONE, 1);
            comesTo(withLeast(57, 30, 101, 102), DONE, 1);
            comesTo(withLeast(57, 53, 30, 30, 101, 102), DONE, 2);
        });
        sentence("57 a b c: the other one is not worked out", () -> {
            comesTo(list(57, 58, 100, 58, 101, 58, 102), DONE, 2, 0, 2);
            comesTo(list(57, 58, 101, 58, 101, 58, 102), DONE, 1, 1, 1);
            comesTo(list(57, 101, 103, 30), DONE, 3);
            comesTo(list(57, 100, 30, 103), DONE, 3);
        });
        sentence("58 a: a is put out; its value", () -> {
            comesTo(list(58, 107), DONE, 7, 7);
            comesTo(list(58, 100), DONE, 0, 0);
            comesTo(list(58, 80), DONE, -20, -20);
            comesTo(list(58, 58, 104), DONE, 4, 4, 4);
        });
        sentence("59 a: RESET: the value of a", () -> {
            comesTo(list(59, 107), DONE, 7);
            comesTo(list(59, 59, 58, 107), DONE, 7, 7);
            comesTo(list(52, 59, 40, 53, 30, 30, 59, 104), DONE, 8);
        });
        sentence("40 + x b: works b out when called, not before, and each time", () -> {
            comesTo(list(60, 40, 58, 101, 102), DONE, 2);
            comesTo(list(61, 40, 58, 30, 53, 52, 31, 101, 52, 31, 102), DONE, 3, 1, 2);
            comesTo(list(52, 40, 107, 58, 101), DONE, 7, 1);
        });
        sentence("60 + x a b: b, with x having the value of a", () -> {
            comesTo(list(60, 58, 101, 53, 30, 30), DONE, 2, 1);
            comesTo(list(60, 58, 101, 107), DONE, 7, 1);
            comesTo(list(60, 40, 55, 30, 30, 52, 30, 105), DONE, 25);
            comesTo(list(60, 101, 60, 53, 30, 101, 30), DONE, 2);
            comesTo(list(60, 30, 30), WRONG, 0);
        });
        sentence("Parts are worked out from left to right", () -> {
            int[] want = {3, -1, 2, 1};
            for (int operation = 53; operation <= 56; operation++) {
                comesTo(list(operation, 58, 101, 58, 102), DONE, want[operation - 53], 1, 2);
            }
            comesTo(list(60, 58, 101, 58, 102), DONE, 2, 1, 2);
        });
        sentence("CALL: f is worked out, then a, then the function is called", () ->
            comesTo(list(52, 60, 58, 101, 40, 58, 103, 58, 102), DONE, 3, 1, 2, 3));
    }

    private static void namesHaveValues() {
        // Each comes to 5 by the inner giver of name 0; by the outer one it would come to 1, to 6,
        // or to nothing.
        int[] outerFunction = {52, 40};
        int[] outerLet = {60, 101};
        int[] outerShift = {53, 101, 70};
        int[] innerFunction = {52, 40, 30, 105};
        int[] innerLet = {60, 105, 30};
        int[] innerShift = {59, 70, 52, 30, 105};
        sentence("Names have what the innermost function around them gives them", () -> {
            comesTo(joined(outerFunction, innerFunction, list(101)), DONE, 5);
            comesTo(joined(outerLet, innerFunction), DONE, 5);
            comesTo(joined(outerShift, innerFunction), DONE, 5);
            comesTo(list(60, 101, 53, 52, 40, 30, 102, 30), DONE, 3);
        });
        sentence("Names have what the innermost 60 around them gives them", () -> {
            comesTo(joined(outerFunction, innerLet, list(101)), DONE, 5);
            comesTo(joined(outerLet, innerLet), DONE, 5);
            comesTo(joined(outerShift, innerLet), DONE, 5);
            comesTo(list(60, 101, 53, 60, 102, 30, 30), DONE, 3);
        });
        sentence("Names have what the innermost SHIFT around them gives them", () -> {
            comesTo(joined(outerFunction, innerShift, list(101)), DONE, 5);
            comesTo(joined(outerLet, innerShift), DONE, 5);
            comesTo(joined(outerShift, innerShift), DONE, 5);
            comesTo(list(60, 101, 53, 59, 70, 52, 30, 105, 30), DONE, 6);
        });
        sentence("that names them: one of another name does not", () -> {
            comesTo(list(60, 105, 52, 41, 30, 101), DONE, 5);
            comesTo(list(60, 105, 61, 101, 30), DONE, 5);
            comesTo(list(60, 105, 71, 30), DONE, 5);
        });
        sentence("in a function those where it was written", () -> {
            comesTo(list(60, 101, 61, 42, 30, 60, 102, 52, 31, 100), DONE, 1);
            comesTo(list(60, 40, 31, 61, 105, 52, 30, 101), WRONG, 0);
            comesTo(list(52, 60, 105, 41, 53, 30, 31, 102), DONE, 7);
            // Two functions of one place keep the names that each was made with.
            comesTo(list(60, 40, 41, 54, 30, 31, 61, 52, 30, 110, 62, 52, 30, 103,
                53, 55, 110, 52, 31, 101, 52, 32, 101), DONE, 92);
        });
        sentence("WRONG at a name that has no value", () -> {
            for (int name = 30; name <= 35; name++) {
                comesTo(list(name), WRONG, 0);
            }
            comesTo(list(53, 60, 101, 30, 30), WRONG, 0);
            comesTo(list(53, 52, 40, 30, 101, 30), WRONG, 0);
            comesTo(list(53, 59, 70, 101, 30), WRONG, 0);
            comesTo(list(60, 40, 52, 31, 30, 52, 30, 101), WRONG, 0);
        });
        sentence("WRONG at a name that has no value: at once, and only when it comes to it", () -> {
            comesTo(list(53, 58, 101, 53, 30, 58, 102), WRONG, 0, 1);
            comesTo(list(52, 30, 58, 101), WRONG, 0);
            comesTo(list(57, 30, 58, 101, 58, 102), WRONG, 0);
            comesTo(list(60, 30, 58, 101), WRONG, 0);
            comesTo(list(60, 40, 31, 107), DONE, 7);
            comesTo(list(53, 70, 107, 31), DONE, 7);
        });
    }

    private static void whatMustBeANumber() {
        for (int operation = 53; operation <= 56; operation++) {
            int token = operation;
            sentence("a value of " + token + " must be a number", () -> {
                comesTo(list(token, 40, 101, 102), WRONG, 0);
                comesTo(list(token, 102, 40, 101), WRONG, 0);
                comesTo(list(token, 40, 101, 40, 101), WRONG, 0);
                comesTo(list(token, 59, 70, 30, 102), WRONG, 0);
                comesTo(list(token, 102, 59, 70, 30), WRONG, 0);
            });
        }
        sentence("a value of a condition must be a number", () -> {
            comesTo(list(57, 40, 101, 101, 102), WRONG, 0);
            comesTo(list(57, 59, 70, 30, 101, 102), WRONG, 0);
        });
        sentence("what is put out too", () -> {
            comesTo(list(58, 40, 101), WRONG, 0);
            comesTo(list(58, 59, 70, 30), WRONG, 0);
            comesTo(list(53, 58, 103, 58, 40, 101), WRONG, 0, 3);
        });
        sentence("what is called a function", () -> {
            for (int n = 80; n <= 120; n++) {
                comesTo(list(52, n, 101), WRONG, 0);
            }
            comesTo(list(52, 101, 40, 30), WRONG, 0);
            CHECK.counts(list(52, 40, 52, 30, 101, 105), WRONG, 1, 0, 2);
        });
        sentence("a function may be called with a function, and a name have one", () -> {
            comesTo(list(52, 40, 52, 30, 104, 41, 55, 31, 31), DONE, 16);
            comesTo(list(52, 40, 52, 30, 104, 59, 55, 103, 70, 30), DONE, 12);
        });
    }

    private static void whenThisIsTested() {
        for (int operation = 53; operation <= 56; operation++) {
            int token = operation;
            sentence("tested when all parts of " + token + " have been worked out", () -> {
                comesTo(list(token, 40, 101, 58, 102), WRONG, 0, 2);
                comesTo(list(token, 58, 102, 40, 101), WRONG, 0, 2);
                // The SHIFT takes the term away before its values are tested.
                comesTo(list(token, 40, 101, 70, 107), DONE, 7);
            });
        }
        sentence("tested when all parts of CALL have been worked out, its function too", () -> {
            comesTo(list(52, 101, 58, 102), WRONG, 0, 2);
            comesTo(list(52, 58, 101, 58, 102), WRONG, 0, 1, 2);
            comesTo(list(52, 101, 70, 107), DONE, 7);
        });
        sentence("tested for the condition of 57 when a has been", () -> {
            comesTo(list(57, 40, 101, 58, 101, 58, 102), WRONG, 0);
            comesTo(list(57, 60, 58, 103, 40, 101, 58, 101, 58, 102), WRONG, 0, 3);
            comesTo(list(57, 40, 101, 70, 101, 70, 102), WRONG, 0);
        });
        sentence("tested for 58 when a has been", () -> {
            comesTo(list(53, 58, 40, 101, 58, 102), WRONG, 0);
            comesTo(list(58, 60, 58, 103, 40, 101), WRONG, 0, 3);
            comesTo(list(53, 58, 40, 101, 70, 107), WRONG, 0);
        });
    }

    private static void whatIsPending() {
        sentence("PENDING: CALL while f or a is worked out", () -> {
            deepest(list(52, 40, 30, 101), 2);
            deepest(list(52, 60, 58, 101, 40, 30, 101), 4);
            deepest(list(52, 40, 30, 58, 101), 3);
        });
        sentence("PENDING: 53 to 56 while a or b is", () -> {
            for (int operation = 53; operation <= 56; operation++) {
                deepest(list(operation, 101, 101), 2);
                deepest(list(operation, 58, 101, 101), 3);
                deepest(list(operation, 101, 58, 101), 3);
            }
        });
        sentence("PENDING: 57 while a is", () -> {
            deepest(list(57, 101, 102, 103), 2);
            deepest(list(57, 58, 101, 102, 103), 3);
        });
        sentence("PENDING: 58 while a is", () -> deepest(list(58, 58, 101), 3));
        sentence("PENDING: 59 while a is", () -> deepest(list(59, 59, 101), 3));
        sentence("PENDING: 60 while a is", () -> deepest(list(60, 58, 101, 102), 3));
        sentence("no other term is pending", () -> {
            deepest(list(101), 1);
            deepest(list(40, 53, 101, 101), 1);
            deepest(list(70, 101), 1);
            deepest(list(70, 71, 72, 58, 101), 2);
        });
        sentence("not while b of 57 is worked out, or c", () -> {
            deepest(list(57, 101, 58, 104, 105), 2);
            deepest(list(57, 100, 104, 58, 105), 2);
            deepest(list(57, 101, 57, 101, 57, 101, 104, 105, 106, 107), 2);
            deepest(list(57, 100, 101, 57, 100, 102, 57, 100, 103, 104), 2);
        });
        sentence("not while b of 60 is worked out", () -> {
            deepest(list(60, 101, 58, 30), 2);
            deepest(joined(times(15, 60, 101), list(30)), 2);
        });
        sentence("not while the body of a function is worked out", () -> {
            deepest(list(52, 40, 58, 30, 101), 2);
            deepest(list(52, 40, 53, 30, 58, 30, 101), 3);
        });
        sentence("what was pending around those stays so", () -> {
            deepest(list(58, 58, 57, 101, 58, 58, 102, 103), 5);
            deepest(list(58, 58, 57, 100, 103, 58, 58, 102), 5);
            deepest(list(58, 58, 60, 101, 58, 58, 30), 5);
            deepest(list(58, 58, 52, 40, 58, 58, 30, 101), 5);
            comesTo(list(58, 57, 101, 102, 103), DONE, 2, 2);
            comesTo(list(58, 57, 100, 102, 103), DONE, 3, 3);
            comesTo(list(58, 60, 101, 102), DONE, 2, 2);
            comesTo(list(58, 52, 40, 55, 30, 30, 103), DONE, 9, 9);
        });
        sentence("as if there was a RESET around the program, which is pending too", () -> {
            deepest(list(101), 1);
            comesTo(list(53, 101, 70, 107), DONE, 7);
            comesTo(list(53, 101, 70, 53, 102, 71, 107), DONE, 7);
            CHECK.counts(list(70, 71, 72, 101), DONE, 0, 3, 1);
        });
    }

    private static void shift() {
        sentence("SHIFT: all that is pending inside the innermost RESET is taken away", () -> {
            comesTo(list(53, 101, 59, 53, 102, 70, 107), DONE, 8);
            comesTo(list(53, 101, 59, 59, 53, 102, 70, 107), DONE, 8);
            comesTo(list(53, 110, 59, 58, 70, 58, 103), DONE, 13, 3);
            comesTo(list(59, 53, 58, 101, 53, 70, 107, 58, 102), DONE, 7, 1);
            comesTo(list(53, 59, 101, 53, 110, 70, 107), DONE, 7);
        });
        sentence("SHIFT: nothing is pending inside the RESET", () -> {
            comesTo(list(53, 101, 59, 70, 107), DONE, 8);
            comesTo(list(53, 101, 59, 70, 52, 30, 107), DONE, 8);
            comesTo(list(70, 53, 52, 30, 103, 52, 30, 104), DONE, 7);
        });
        sentence("SHIFT: as many are pending inside the RESET as there can be", () ->
            comesTo(joined(times(15, 58), list(70, 58, 103)), DONE, 3, 3));
        sentence("SHIFT: x becomes a function that stands for it", () -> {
            SegmentMachine machine = CHECK.ran(58, 70, 30);
            CHECK.due("kind()", machine.kind(), 2);
            CHECK.due("outs()", machine.outs(), 0);
            comesTo(list(53, 101, 70, 53, 110, 52, 30, 103), DONE, 14);
            comesTo(list(53, 101, 75, 53, 110, 52, 35, 103), DONE, 14);
        });
        sentence("SHIFT: then a is worked out in place of it, still inside this RESET", () -> {
            comesTo(list(53, 110, 59, 70, 53, 101, 71, 102), DONE, 12);
            comesTo(list(53, 110, 59, 53, 101, 70, 53, 102, 71, 103), DONE, 13);
            comesTo(list(53, 110, 59, 53, 101, 70, 53, 102, 71, 52, 31, 103), DONE, 15);
        });
    }

    private static void calledSegments() {
        int[] both = {70, 53, 52, 30, 101, 52, 30, 102};
        sentence("Called, that function makes a RESET pending", () -> {
            deepest(list(58, 70, 52, 30, 101), 3);
            deepest(list(53, 101, 70, 52, 30, 52, 30, 101), 4);
            // The second SHIFT takes 2 + and leaves 10 +.
            comesTo(list(53, 101, 59, 53, 102, 52, 70, 53, 110, 52, 30, 40, 71, 30, 100), DONE, 11);
        });
        sentence("and inside it, in the same order, all that it stands for", () -> {
            comesTo(list(59, 54, 110, 55, 102, 70, 52, 30, 103), DONE, 4);
            comesTo(list(55, 102, 54, 110, 70, 52, 30, 103), DONE, 14);
            deepest(list(53, 101, 53, 102, 53, 103, 70, 52, 30, 104), 5);
        });
        sentence("all that it stands for, as it was when taken", () -> {
            // What the first part put out is not put out again, and its value is kept.
            comesTo(list(59, 53, 58, 101, 70, 53, 52, 30, 101, 52, 30, 102), DONE, 5, 1);
            // A term that was at its first part is there again in the second call.
            comesTo(list(59, 53, 70, 53, 52, 30, 101, 52, 30, 102, 58, 103), DONE, 9, 3, 3);
            // Names have what they had there, not what they have where it is called.
            comesTo(list(60, 101, 61, 59, 53, 70, 30, 30, 60, 102, 52, 31, 110), DONE, 11);
        });
        sentence("called after its RESET has ended, and by its own call", () -> {
            comesTo(list(60, 59, 55, 103, 70, 30, 53, 52, 30, 101, 52, 30, 102), DONE, 9);
            comesTo(list(52, 70, 52, 30, 40, 30, 105), DONE, 5);
        });
        sentence("goes on as if the SHIFT had this value: as f or a of CALL", () -> {
            comesTo(joined(list(52), list(70, 52, 30, 40, 53, 30, 30), list(104)), DONE, 8);
            comesTo(joined(list(52, 40, 55, 30, 110), both), DONE, 30);
        });
        sentence("goes on as if the SHIFT had this value: as a part of 53 to 56", () -> {
            comesTo(joined(list(53, 110), both), DONE, 23);
            comesTo(joined(list(54), both, list(110)), DONE, -17);
            comesTo(joined(list(55, 104), both), DONE, 12);
            comesTo(joined(list(56), both, list(102)), DONE, 1);
        });
        sentence("goes on as if the SHIFT had this value: as a of 57", () -> {
            comesTo(joined(list(57), both, list(103, 104)), DONE, 6);
            comesTo(list(57, 70, 53, 52, 30, 100, 52, 30, 102, 103, 104), DONE, 7);
        });
        sentence("goes on as if the SHIFT had this value: as a of 58, 59 and 60", () -> {
            comesTo(joined(list(58), both), DONE, 3, 1, 2);
            comesTo(joined(list(59), both), DONE, 3);
            comesTo(joined(list(60), both, list(55, 30, 30)), DONE, 5);
        });
        sentence("goes on as if the SHIFT had this value, if that is a function too", () -> {
            comesTo(list(53, 101, 70, 52, 30, 40, 30), WRONG, 0);
            comesTo(list(58, 70, 52, 30, 30), WRONG, 0);
            comesTo(list(57, 70, 52, 30, 30, 101, 102), WRONG, 0);
        });
    }
}
