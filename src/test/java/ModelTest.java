import java.util.ArrayList;
import java.util.List;

/** Many programs, and many runs of calls, with the answers that Model gives. */
public final class ModelTest {
    private static final int PROGRAM_OBJECTS = 50000;
    private static final int OBJECTS = 3000;
    private static final int CALLS = 512;
    private static final int SELF = -1;
    private static final int OUT = 0;
    private static final int QUESTIONS = 11;
    private static final Check CHECK = new Check();

    private static long seed = 1;

    public static void main(String[] args) {
        int[] endings = new int[6];
        int[] seen = new int[2];
        for (int i = 0; i < PROGRAM_OBJECTS && CHECK.allAsDue(); i++) {
            comparePrograms(endings, seen);
        }
        for (int i = 0; i < OBJECTS && CHECK.allAsDue(); i++) {
            compareCalls();
        }
        for (int ending = SegmentMachine.DONE; ending <= SegmentMachine.FULL; ending++) {
            CHECK.due("enough programs end with " + ending, endings[ending] >= 50, true);
        }
        CHECK.due("enough runs call functions often and are DONE", seen[0] >= 1000, true);
        CHECK.due("enough runs do many SHIFTs and are DONE", seen[1] >= 1000, true);
        CHECK.end();
    }

    // A generator of its own, so that every run of the test looks at the same programs.
    private static int below(int bound) {
        seed = seed * 6364136223846793005L + 1442695040888963407L;
        return (int) ((seed >>> 33) % bound);
    }

    /** A number below the bound or, now and then, one at either end of the ints. */
    private static int any(int bound) {
        int choice = below(20);
        if (choice < 2) {
            return (choice == 0 ? Integer.MIN_VALUE : Integer.MAX_VALUE) + below(9) - 4;
        }
        return below(bound);
    }

    private static List<Integer> plain() {
        List<Integer> program = new ArrayList<>();
        write(program, 1 + below(32), 0, false);
        return program;
    }

    /** A function that can call itself with the number before its own, and a call of it. */
    private static List<Integer> recursive(boolean inReset) {
        List<Integer> program = new ArrayList<>(List.of(60, 40, 41, 57, 31));
        write(program, 7 + below(9), 3, true);
        write(program, 1 + below(5), 3, false);
        if (inReset) {
            program.addAll(List.of(53, 100 + below(20), 59));
        }
        program.addAll(List.of(52, 52, 30, 30, 100 + below(20)));
        return program;
    }

    /** Writes a term of about this size; scope has bit x when name x has a value there. */
    private static void write(List<Integer> program, int size, int scope, boolean self) {
        int token = self && size >= 7 && size <= 9 ? SELF : tokenFor(size, scope);
        int name = token % 10;
        if (token == SELF) {
            program.addAll(List.of(52, 52, 30, 30, 54, 31, 101));
            return;
        }
        program.add(token);
        int left = size - 1;
        int inside = scope | 1 << name;
        if (token >= 80 || token < 40) {
            return;
        }
        if (token < 50 || token >= 70) {
            write(program, left, inside, self);
        } else if (token == 58 || token == 59) {
            write(program, left, scope, self);
        } else if (token == 57) {
            int first = 1 + below(left - 2);
            int second = 1 + below(left - first - 1);
            write(program, first, scope, self);
            write(program, second, scope, self);
            write(program, left - first - second, scope, self);
        } else {
            int first = 1 + below(left - 1);
            write(program, first, scope, self);
            write(program, left - first, token >= 60 ? inside : scope, self);
        }
    }

    private static int tokenFor(int size, int scope) {
        if (size == 1) {
            return leaf(scope);
        }
        int[] one = {40, 58, 58, 59, 70, 70};
        int[] two = {52, 52, 52, 53, 54, 55, 56, 60, 60};
        int choice = below(20);
        int token = 57;
        if (size == 2 || choice < 9) {
            token = one[below(one.length)];
        } else if (size == 3 || choice < 19) {
            token = two[below(two.length)];
        }
        boolean named = token == 40 || token == 60 || token == 70;
        return named ? token + below(6) : token;
    }

    private static int leaf(int scope) {
        int name = below(6);
        for (int tries = 0; tries < 6 && (scope >> name & 1) == 0; tries++) {
            name = (name + 1) % 6;
        }
        boolean bound = (scope >> name & 1) != 0;
        if (bound && below(3) > 0 || below(60) == 0) {
            return 30 + name;
        }
        return 80 + below(41);
    }

    /** Three programs, one after the other on one object; fewer than 512 calls in all. */
    private static void comparePrograms(int[] endings, int[] seen) {
        SegmentMachine machine = new SegmentMachine();
        Model model = new Model();
        List<List<Integer>> programs = List.of(plain(), recursive(true), recursive(false));
        int first = below(programs.size());
        for (int i = 0; i < programs.size(); i++) {
            List<Integer> program = programs.get((first + i) % programs.size());
            for (int token : program) {
                due(model, "feed", token, machine.feed(token), model.feed(token));
            }
            compareRuns(machine, model);
            endings[model.status]++;
            if (model.status == SegmentMachine.DONE) {
                seen[0] += model.calls >= 15 ? 1 : 0;
                seen[1] += model.shifts >= 4 ? 1 : 0;
            }
            for (int left = program.size(); left > 0; left--) {
                due(model, "undo", left, machine.undo(), model.undo());
            }
        }
    }

    private static void compareRuns(SegmentMachine machine, Model model) {
        int[] rooms = {1 + below(4), 1 + below(8), 1 + below(1000)};
        for (int room : rooms) {
            due(model, "run", room, machine.run(room), model.run(room));
            compareRun(machine, model);
        }
    }

    private static void compareRun(SegmentMachine machine, Model model) {
        for (int question = 0; question < QUESTIONS; question++) {
            ask(question, 0, machine, model);
        }
        for (int i = 1; i <= model.outs.size(); i++) {
            ask(OUT, i, machine, model);
        }
    }

    private static void compareCalls() {
        SegmentMachine machine = new SegmentMachine();
        Model model = new Model();
        int feeding = 4 + below(3);
        for (int call = 0; call < CALLS; call++) {
            int choice = below(20);
            if (choice < feeding) {
                int token = below(8) == 0 ? any(400) - 150 : tokenFor(1 + below(4), below(64));
                due(model, "feed", token, machine.feed(token), model.feed(token));
            } else if (choice < 9) {
                due(model, "undo", 0, machine.undo(), model.undo());
            } else if (choice < 12) {
                int room = below(4) == 0 ? any(4) * 1001 - below(2) : 1 + below(1000);
                due(model, "run", room, machine.run(room), model.run(room));
            } else {
                ask(below(QUESTIONS), any(40) - 4, machine, model);
            }
        }
    }

    private static void ask(int question, int i, SegmentMachine machine, Model model) {
        switch (question) {
            case OUT -> due(model, "out", i, machine.out(i), model.out(i));
            case 1 -> due(model, "token", i, machine.token(i), model.token(i));
            case 2 -> due(model, "complete", 0, machine.complete() ? 1 : 0, model.complete() ? 1 : 0);
            case 3 -> due(model, "free", 0, machine.free(), model.free());
            case 4 -> due(model, "status", 0, machine.status(), model.status);
            case 5 -> due(model, "kind", 0, machine.kind(), model.kind());
            case 6 -> due(model, "number", 0, machine.number(), model.number());
            case 7 -> due(model, "outs", 0, machine.outs(), model.outs.size());
            case 8 -> due(model, "calls", 0, machine.calls(), model.calls);
            case 9 -> due(model, "shifts", 0, machine.shifts(), model.shifts);
            default -> due(model, "deepest", 0, machine.deepest(), model.deepest);
        }
    }

    private static void due(Model model, String call, int argument, int got, int want) {
        CHECK.due(got == want ? call : call + " " + argument + " at " + model.tokens(), got, want);
    }
}
