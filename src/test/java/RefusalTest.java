import java.util.ArrayList;
import java.util.List;
import java.util.function.ToIntFunction;

// No call throws, whatever its arguments, and a refused call changes nothing that later calls show.
public final class RefusalTest extends Answers {
    private static final int[] FAR_AND_NEAR = {
        MIN, MIN + 1, -241, -61, -33, -32, -17, -16, -4, -1, 0, 1, 3, 4, 7, 8, 15, 16, 17, 31, 32, 33, 59, 60, 61, 240, MAX - 1, MAX,
    };
    private static final int[] FEW = {MIN, -1, 0, 3, 4, 8, 16, 17, MAX};

    private record Call(String name, ToIntFunction<SecretFlows> on, int due) {
    }

    private static Call put(int op, int r, int x, int due) {
        return new Call("put(" + op + ", " + r + ", " + x + ")", f -> f.put(op, r, x), due);
    }

    private static Call set(int i, int op, int r, int x, int due) {
        return new Call("set(" + i + ", " + op + ", " + r + ", " + x + ")", f -> f.set(i, op, r, x), due);
    }

    // Programs, each as the calls that make it

    private static List<Call> made(int[]... instructions) {
        List<Call> calls = new ArrayList<>();
        calls.add(set(0, instructions[0][0], instructions[0][1], instructions[0][2], 0));
        for (int i = 1; i < instructions.length; i++) {
            calls.add(put(instructions[i][0], instructions[i][1], instructions[i][2], i));
        }
        return calls;
    }

    /** Sixteen instructions with branches on the secret, loops, targets at either edge and an unused place. */
    private static List<Call> full() {
        return made(op(ZERO, 1, 4), op(SET, 2, 1), op(ADD, 3, 2), op(JUMP, 0, 5), op(SUB, 2, 2), op(OUT, 2, 0),
                op(ZERO, 0, 16), op(SUB, 0, 2), op(MOVE, 3, 0), op(OUT, 3, 0), op(ZERO, 3, 12), op(ZERO, 2, 0),
                op(JUMP, 0, 14), op(OUT, 1, 0), op(OUT, 0, 0), op(HALT, 0, 0));
    }

    private static List<List<Call>> programs() {
        List<List<Call>> programs = new ArrayList<>();
        programs.add(List.of());
        programs.add(made(op(JUMP, 0, 3)));
        programs.add(made(op(OUT, 1, 0), op(JUMP, 0, 0)));
        programs.add(made(op(ZERO, 1, 3), op(SET, 2, 1), op(JUMP, 0, 4), op(SET, 2, 2), op(OUT, 2, 0), op(ZERO, 2, 9)));
        programs.add(full());
        return programs;
    }

    private static SecretFlows after(List<Call> calls) {
        SecretFlows f = new SecretFlows();
        for (Call call : calls) {
            due(call.name(), call.on().applyAsInt(f), call.due());
        }
        return f;
    }

    // All that can be asked of a program, from new objects that are asked at most 512 times each

    private static List<Integer> allAnswers(List<Call> calls) {
        List<Integer> answers = new ArrayList<>();
        askRules(after(calls), answers);
        for (int p = 0; p <= 3; p++) {
            askRuns(after(calls), p, answers);
        }
        return answers;
    }

    private static void askRules(SecretFlows f, List<Integer> answers) {
        int n = f.size();
        answers.add(n);
        for (int i = 0; i < n; i++) {
            answers.add(f.comeTo(i));
            answers.add(f.meeting(i));
            answers.add(f.secret(i));
            for (int r = 0; r <= 3; r++) {
                answers.add(f.knows(i, r));
            }
            for (int b = 0; b < n; b++) {
                answers.add(f.under(i, b));
            }
        }
        answers.add(f.bad());
        answers.add(f.safe());
        answers.add(f.leaks());
    }

    private static void askRuns(SecretFlows f, int p, List<Integer> answers) {
        answers.add(f.shows(p));
        for (int s = 0; s <= 3; s++) {
            answers.add(f.run(p, s));
            answers.add(f.steps(p, s));
            int outs = f.outs(p, s);
            answers.add(outs);
            for (int i = 0; i <= outs; i++) {
                answers.add(f.out(p, s, i));
            }
        }
    }

    // Every kind of refused call

    private static void addRefusedInstructions(List<Call> refused, int n) {
        int[][] wrong = {
            op(-1, 0, 0), op(8, 0, 0), op(SET, -1, 0), op(MOVE, 4, 0), op(ADD, -1, 0), op(SUB, 4, 0), op(OUT, -1, 0),
            op(OUT, 4, 0), op(ZERO, -1, 0), op(ZERO, 4, 0), op(SET, 0, -1), op(SET, 2, 4), op(MOVE, 0, 4), op(ADD, 3, -1),
            op(SUB, 1, 4), op(JUMP, 0, -1), op(JUMP, 0, 17), op(ZERO, 1, -1), op(ZERO, 1, 17), op(8, 4, 17),
        };
        for (int[] each : wrong) {
            refused.add(put(each[0], each[1], each[2], BAD_ARG));
            refused.add(set(0, each[0], each[1], each[2], BAD_ARG));
            refused.add(set(n - 1, each[0], each[1], each[2], BAD_ARG));
            refused.add(set(n, each[0], each[1], each[2], NONE));
        }
        for (int op = 0; op <= 7; op++) {
            refused.add(set(-1, op, 1, 1, NONE));
            refused.add(set(n, op, 1, 1, NONE));
            refused.add(set(MAX, op, 1, 1, NONE));
            if (n == 16) {
                refused.add(put(op, 1, 1, FULL));
            }
        }
    }

    private static void addRefusedPlaces(List<Call> refused, int n) {
        int[] noPlaces = {-1, n, MIN, MAX};
        for (int i : noPlaces) {
            refused.add(new Call("comeTo(" + i + ")", f -> f.comeTo(i), BAD_ARG));
            refused.add(new Call("meeting(" + i + ")", f -> f.meeting(i), BAD_ARG));
            refused.add(new Call("secret(" + i + ")", f -> f.secret(i), BAD_ARG));
            refused.add(new Call("under(" + i + ", 0)", f -> f.under(i, 0), BAD_ARG));
            refused.add(new Call("under(0, " + i + ")", f -> f.under(0, i), BAD_ARG));
            refused.add(new Call("knows(" + i + ", 1)", f -> f.knows(i, 1), BAD_ARG));
            refused.add(new Call("knows(" + i + ", 4)", f -> f.knows(i, 4), BAD_ARG));
        }
    }

    private static void addRefusedNumbers(List<Call> refused) {
        for (int v : NO_NUMBERS) {
            refused.add(new Call("knows(0, " + v + ")", f -> f.knows(0, v), BAD_ARG));
            refused.add(new Call("run(" + v + ", 1)", f -> f.run(v, 1), BAD_ARG));
            refused.add(new Call("run(1, " + v + ")", f -> f.run(1, v), BAD_ARG));
            refused.add(new Call("steps(" + v + ", 1)", f -> f.steps(v, 1), BAD_ARG));
            refused.add(new Call("steps(1, " + v + ")", f -> f.steps(1, v), BAD_ARG));
            refused.add(new Call("outs(" + v + ", 1)", f -> f.outs(v, 1), BAD_ARG));
            refused.add(new Call("outs(1, " + v + ")", f -> f.outs(1, v), BAD_ARG));
            refused.add(new Call("out(" + v + ", 1, 0)", f -> f.out(v, 1, 0), BAD_ARG));
            refused.add(new Call("out(1, " + v + ", 0)", f -> f.out(1, v, 0), BAD_ARG));
            refused.add(new Call("shows(" + v + ")", f -> f.shows(v), BAD_ARG));
        }
        int[] never = {-1, 60, MIN, MAX};
        for (int i : never) {
            refused.add(new Call("out(1, 1, " + i + ")", f -> f.out(1, 1, i), NONE));
        }
    }

    private static List<Call> refusedCalls(int n) {
        List<Call> refused = new ArrayList<>();
        addRefusedInstructions(refused, n);
        addRefusedPlaces(refused, n);
        addRefusedNumbers(refused);
        return refused;
    }

    // What may bring to light what a refused call left behind

    private static List<List<Call>> laterCalls(int n) {
        List<Call> more = new ArrayList<>();
        for (int place = n; place < 16; place++) {
            more.add(put(place == n ? OUT : ADD, 1, 3, place));
        }
        List<Call> anew = new ArrayList<>();
        anew.add(new Call("clear()", SecretFlows::clear, n));
        anew.add(put(OUT, 1, 0, 1));
        anew.add(set(0, ZERO, 0, 2, 0));
        return List.of(List.of(), more, anew);
    }

    private static List<Call> together(List<Call> first, List<Call> refused, List<Call> later) {
        List<Call> calls = new ArrayList<>(first);
        calls.addAll(refused);
        calls.addAll(later);
        return calls;
    }

    private static void refusedCallsChangeNothing() {
        sentence("A refused call answers the code named and changes nothing");
        for (List<Call> program : programs()) {
            int n = after(program).size();
            List<Call> refused = refusedCalls(n);
            for (List<Call> later : laterCalls(n)) {
                List<Integer> due = allAnswers(together(program, List.of(), later));
                for (Call each : refused) {
                    if (!allAnswers(together(program, List.of(each), later)).equals(due)) {
                        wrong(each.name() + " changed something, n " + n + ", " + later.size() + " calls later");
                    }
                }
            }
        }
    }

    // No call throws

    private static void mayNotThrow(String name, List<Call> program, ToIntFunction<SecretFlows> call) {
        SecretFlows f = after(program);
        try {
            call.applyAsInt(f);
            askRules(f, new ArrayList<>());
            askRuns(f, 0, new ArrayList<>());
        } catch (RuntimeException | Error thrown) {
            wrong(name + " or a call behind it threw " + thrown);
        }
    }

    private static void noQuestionThrows(List<Call> program) {
        for (int a : FAR_AND_NEAR) {
            mayNotThrow("a question about " + a, program, f -> f.comeTo(a) + f.meeting(a) + f.secret(a) + f.shows(a));
            for (int b : FAR_AND_NEAR) {
                mayNotThrow("a question about " + a + ", " + b, program,
                        f -> f.under(a, b) + f.knows(a, b) + f.run(a, b) + f.steps(a, b) + f.outs(a, b));
                mayNotThrow("out(" + a + ", " + b + ", ..)", program, f -> outAtAll(f, a, b));
            }
        }
    }

    private static int outAtAll(SecretFlows f, int p, int s) {
        int sum = 0;
        for (int i : FAR_AND_NEAR) {
            sum += f.out(p, s, i);
        }
        return sum;
    }

    private static void noChangeThrows(List<Call> program) {
        for (int op : FEW) {
            for (int r : FEW) {
                for (int x : FEW) {
                    mayNotThrow("put(" + op + ", " + r + ", " + x + ")", program, f -> f.put(op, r, x));
                    mayNotThrow("set(.., " + op + ", " + r + ", " + x + ")", program, f -> setAtAll(f, op, r, x));
                }
            }
        }
        for (int op = 0; op <= 7; op++) {
            for (int any : FAR_AND_NEAR) {
                int each = op;
                mayNotThrow("op " + op + " with r " + any, program, f -> setAtAll(f, each, any, 0));
                mayNotThrow("op " + op + " with x " + any, program, f -> setAtAll(f, each, 0, any));
            }
        }
    }

    private static int setAtAll(SecretFlows f, int op, int r, int x) {
        int sum = 0;
        for (int i : FAR_AND_NEAR) {
            sum += f.set(i, op, r, x);
        }
        return sum;
    }

    private static void noCallThrowsBeyond512() {
        SecretFlows f = after(full());
        try {
            for (int call = 0; call < 2000; call++) {
                f.put(call % 9, call % 5, call % 18);
                f.set(call % 17, call % 9, call % 5, call % 18);
                f.out(call % 5, call % 4, call % 61);
            }
        } catch (RuntimeException | Error thrown) {
            wrong("a call beyond the 512th threw " + thrown);
        }
    }

    private static void noCallThrows() {
        sentence("No call ever throws");
        List<List<Call>> programs = new ArrayList<>();
        programs.add(List.of());
        programs.add(full());
        for (List<Call> program : programs) {
            noQuestionThrows(program);
            noChangeThrows(program);
        }
        noCallThrowsBeyond512();
    }

    public static void main(String[] args) {
        refusedCallsChangeNothing();
        noCallThrows();
        endTest();
    }
}
