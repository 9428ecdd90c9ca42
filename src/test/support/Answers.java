import java.util.Arrays;

// What the tests share: the names of the ops, programs made from rows, and answers held against those due.
abstract class Answers {
    static final int SET = 0;
    static final int MOVE = 1;
    static final int ADD = 2;
    static final int SUB = 3;
    static final int OUT = 4;
    static final int JUMP = 5;
    static final int ZERO = 6;
    static final int HALT = 7;

    // Numbers of their own, so that a wrong constant of the class is seen.
    static final int BAD_ARG = -1;
    static final int FULL = -2;
    static final int NONE = -4;
    static final int DONE = 0;
    static final int TIRED = 1;

    static final int MIN = Integer.MIN_VALUE;
    static final int MAX = Integer.MAX_VALUE;
    static final int[] NO_NUMBERS = {-1, 4, MIN, MAX};

    private static int wrong = 0;
    private static String tested = "";

    /** The document's words that the answers from here on are held against. */
    static void sentence(String words) {
        tested = "[" + words + "] ";
    }

    static void due(String call, int got, int want) {
        if (got != want) {
            wrong(call + " answered " + got + ", due is " + want);
        }
    }

    static void wrong(String what) {
        wrong++;
        System.out.println(tested + what);
    }

    static void endTest() {
        System.out.println(wrong == 0 ? "all answers are as due" : wrong + " answers are not as due");
        if (wrong != 0) {
            System.exit(1);
        }
    }

    static int[] op(int op, int r, int x) {
        return new int[] {op, r, x};
    }

    static SecretFlows program(int[]... instructions) {
        SecretFlows f = new SecretFlows();
        due("program: set", f.set(0, instructions[0][0], instructions[0][1], instructions[0][2]), 0);
        for (int i = 1; i < instructions.length; i++) {
            int[] each = instructions[i];
            due("program: put", f.put(each[0], each[1], each[2]), i);
        }
        return f;
    }

    /** The same instruction at n places. */
    static SecretFlows same(int n, int[] instruction) {
        int[][] instructions = new int[n][];
        Arrays.fill(instructions, instruction);
        return program(instructions);
    }

    /** An if on the secret: place 1 or place 3 sets register 2, place 4 is where they meet. */
    static SecretFlows branchOnSecret() {
        return program(op(ZERO, 1, 3), op(SET, 2, 1), op(JUMP, 0, 4), op(SET, 2, 2), op(OUT, 2, 0), op(OUT, 0, 0));
    }

    /** With public 0 this does 56 instructions and then the last ones, which stand from place 7 on. */
    static SecretFlows after56(int[]... last) {
        SecretFlows f = program(op(SET, 2, 1), op(SUB, 0, 2), op(ZERO, 0, 4), op(JUMP, 0, 1), op(SUB, 3, 2), op(ZERO, 3, 7), op(JUMP, 0, 1));
        for (int[] each : last) {
            f.put(each[0], each[1], each[2]);
        }
        return f;
    }

    /** With public 0 and k outs at its end this does 56 + k instructions. */
    static SecretFlows longRun(int k) {
        int[][] outs = new int[k][];
        Arrays.fill(outs, op(OUT, 1, 0));
        return after56(outs);
    }

    static void outputIs(String what, SecretFlows f, int p, int s, int... want) {
        due(what + ": outs", f.outs(p, s), want.length);
        for (int i = 0; i < want.length; i++) {
            due(what + ": out " + i, f.out(p, s, i), want[i]);
        }
        due(what + ": out behind the last", f.out(p, s, want.length), NONE);
    }

    private static int oneIfIn(int[] members, int m) {
        for (int each : members) {
            if (each == m) {
                return 1;
            }
        }
        return 0;
    }

    static void underAre(String what, SecretFlows f, int b, int... want) {
        for (int q = 0; q < f.size(); q++) {
            due(what + ": under(" + q + ", " + b + ")", f.under(q, b), oneIfIn(want, q));
        }
    }

    static void knowingAre(String what, SecretFlows f, int i, int... want) {
        for (int r = 0; r < 4; r++) {
            due(what + ": knows(" + i + ", " + r + ")", f.knows(i, r), oneIfIn(want, r));
        }
    }

    static void isOneHalt(String what, SecretFlows f) {
        due(what + ": size", f.size(), 1);
        due(what + ": comeTo", f.comeTo(0), 1);
        due(what + ": meeting", f.meeting(0), 1);
        due(what + ": under", f.under(0, 0), 0);
        due(what + ": secret", f.secret(0), 0);
        knowingAre(what, f, 0, 1);
        due(what + ": bad", f.bad(), NONE);
        due(what + ": safe", f.safe(), 1);
        due(what + ": run", f.run(3, 2), DONE);
        due(what + ": steps", f.steps(3, 2), 1);
        due(what + ": outs", f.outs(3, 2), 0);
        due(what + ": shows", f.shows(3), 1);
        due(what + ": leaks", f.leaks(), 0);
        // A second instruction is not come to: the first is a halt, and no jump to place 1.
        due(what + ": put", f.put(OUT, 1, 0), 1);
        due(what + ": comeTo behind halt", f.comeTo(1), 0);
        due(what + ": meeting of halt", f.meeting(0), 2);
    }
}
