import java.util.ArrayList;
import java.util.HashMap;
import java.util.List;
import java.util.Map;

/**
 * A second way to do what the document says, with terms, maps and lists where SegmentMachine has
 * numbers and arrays, and without a collector.
 */
final class Model {
    private record Term(int token, List<Term> parts) { }

    /** A term that is pending, its names, and its first value if it has one; a RESET has no term. */
    private record Pending(Term term, Map<Integer, Object> names, Object first) { }

    private record Function(int name, Term body, Map<Integer, Object> names) { }

    private record Segment(List<Pending> taken) { }

    private static final Pending RESET = new Pending(null, null, null);

    private final List<Integer> tokens = new ArrayList<>();
    private List<Pending> pending = new ArrayList<>();
    private Term term;
    private Map<Integer, Object> names;
    private Object value;
    private int reading;

    int status;
    int calls;
    int shifts;
    int deepest;
    final List<Integer> outs = new ArrayList<>();

    int feed(int token) {
        if (parts(token) < 0) {
            return SegmentMachine.BAD;
        }
        if (complete() || tokens.size() == 32) {
            return SegmentMachine.FULL_LIST;
        }
        tokens.add(token);
        forget();
        return tokens.size();
    }

    int undo() {
        if (tokens.isEmpty()) {
            return SegmentMachine.BAD;
        }
        forget();
        return tokens.remove(tokens.size() - 1);
    }

    int token(int i) {
        return i < 0 || i >= tokens.size() ? SegmentMachine.BAD : tokens.get(i);
    }

    boolean complete() {
        return read() != null;
    }

    int free() {
        Term program = read();
        return program == null ? SegmentMachine.BAD : free(program);
    }

    int run(int room) {
        Term program = read();
        if (program == null || room < 1 || room > 1000) {
            return SegmentMachine.BAD;
        }
        forget();
        pending = new ArrayList<>();
        pending.add(RESET);
        deepest = 1;
        go(program, Map.of());
        while (status == SegmentMachine.NONE) {
            if (term != null) {
                begin();
            } else {
                finish();
            }
        }
        return status;
    }

    int kind() {
        if (status != SegmentMachine.DONE) {
            return 0;
        }
        return value instanceof Integer ? 1 : 2;
    }

    int number() {
        return kind() == 1 ? (Integer) value : 0;
    }

    int out(int i) {
        return i < 0 || i >= outs.size() ? 0 : outs.get(i);
    }

    List<Integer> tokens() {
        return tokens;
    }

    private void forget() {
        status = SegmentMachine.NONE;
        calls = 0;
        shifts = 0;
        deepest = 0;
        outs.clear();
    }

    private static int parts(int token) {
        if (token >= 80 && token <= 120) {
            return 0;
        }
        switch (token) {
            case 30: case 31: case 32: case 33: case 34: case 35:
                return 0;
            case 40: case 41: case 42: case 43: case 44: case 45:
            case 58: case 59:
            case 70: case 71: case 72: case 73: case 74: case 75:
                return 1;
            case 52: case 53: case 54: case 55: case 56:
            case 60: case 61: case 62: case 63: case 64: case 65:
                return 2;
            case 57:
                return 3;
            default:
                return -1;
        }
    }

    private Term read() {
        reading = 0;
        return readTerm();
    }

    private Term readTerm() {
        if (reading == tokens.size()) {
            return null;
        }
        int token = tokens.get(reading++);
        List<Term> parts = new ArrayList<>();
        for (int part = parts(token); part > 0; part--) {
            Term next = readTerm();
            if (next == null) {
                return null;
            }
            parts.add(next);
        }
        return new Term(token, parts);
    }

    private static int free(Term some) {
        int token = some.token();
        if (is(token, 30)) {
            return 1 << (token - 30);
        }
        if (is(token, 40) || is(token, 70)) {
            return free(some.parts().get(0)) & ~(1 << (token % 10));
        }
        if (is(token, 60)) {
            return free(some.parts().get(0)) | free(some.parts().get(1)) & ~(1 << (token - 60));
        }
        int found = 0;
        for (Term part : some.parts()) {
            found |= free(part);
        }
        return found;
    }

    private static boolean is(int token, int group) {
        return token >= group && token <= group + 5;
    }

    private void go(Term next, Map<Integer, Object> its) {
        term = next;
        names = its;
    }

    private void go(Term next, Map<Integer, Object> its, int name, Object named) {
        Map<Integer, Object> more = new HashMap<>(its);
        more.put(name, named);
        go(next, more);
    }

    private void come(Object to) {
        term = null;
        value = to;
    }

    private void begin() {
        int token = term.token();
        if (token >= 80) {
            come(token - 100);
        } else if (is(token, 30)) {
            if (names.containsKey(token - 30)) {
                come(names.get(token - 30));
            } else {
                status = SegmentMachine.WRONG;
            }
        } else if (is(token, 40)) {
            come(new Function(token - 40, term.parts().get(0), names));
        } else if (is(token, 70)) {
            shift(token - 70);
        } else if (pushed(List.of(token == 59 ? RESET : new Pending(term, names, null)))) {
            go(term.parts().get(0), names);
        }
    }

    private boolean pushed(List<Pending> more) {
        if (pending.size() + more.size() > 16) {
            status = SegmentMachine.DEEP;
            return false;
        }
        pending.addAll(more);
        deepest = Math.max(deepest, pending.size());
        return true;
    }

    private void shift(int name) {
        if (shifts == 8) {
            status = SegmentMachine.LONG;
            return;
        }
        shifts++;
        int inside = pending.lastIndexOf(RESET) + 1;
        Segment segment = new Segment(List.copyOf(pending.subList(inside, pending.size())));
        pending = new ArrayList<>(pending.subList(0, inside));
        go(term.parts().get(0), names, name, segment);
    }

    private void finish() {
        Pending last = pending.remove(pending.size() - 1);
        if (last == RESET) {
            status = pending.isEmpty() ? SegmentMachine.DONE : SegmentMachine.NONE;
            return;
        }
        int token = last.term().token();
        List<Term> parts = last.term().parts();
        if (token <= 56 && last.first() == null) {
            pending.add(new Pending(last.term(), last.names(), value));
            go(parts.get(1), last.names());
        } else if (token == 52) {
            call(last.first());
        } else if (is(token, 60)) {
            go(parts.get(1), last.names(), token - 60, value);
        } else if (!(value instanceof Integer) || token <= 56 && !(last.first() instanceof Integer)) {
            status = SegmentMachine.WRONG;
        } else if (token == 57) {
            go(parts.get((Integer) value == 0 ? 2 : 1), last.names());
        } else if (token == 58) {
            put();
        } else {
            come(reckoned(token, (Integer) last.first(), (Integer) value));
        }
    }

    private void call(Object what) {
        if (what instanceof Integer) {
            status = SegmentMachine.WRONG;
        } else if (calls == 40) {
            status = SegmentMachine.LONG;
        } else if (what instanceof Function function) {
            calls++;
            go(function.body(), function.names(), function.name(), value);
        } else {
            calls++;
            List<Pending> more = new ArrayList<>();
            more.add(RESET);
            more.addAll(((Segment) what).taken());
            pushed(more);
        }
    }

    private void put() {
        if (outs.size() == 16) {
            status = SegmentMachine.FULL;
        } else {
            outs.add((Integer) value);
        }
    }

    private static int reckoned(int token, int a, int b) {
        switch (token) {
            case 53:
                return a + b;
            case 54:
                return a - b;
            case 55:
                return a * b;
            default:
                return a < b ? 1 : 0;
        }
    }
}
