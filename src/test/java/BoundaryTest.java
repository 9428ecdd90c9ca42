// One test for each sentence of the document that names a boundary case, in the document's order.
// That no call throws and that a refused call changes nothing is in RefusalTest.
public final class BoundaryTest extends Answers {
    private static final int[] STRAIGHT = {SET, MOVE, ADD, SUB, OUT};
    private static final int[] WITH_REGISTER = {SET, MOVE, ADD, SUB, OUT, ZERO};
    private static final int[] WITH_NUMBER = {SET, MOVE, ADD, SUB};
    private static final int[] WITH_TARGET = {JUMP, ZERO};
    private static final int[] NO_OPS = {-1, 8, MIN, MAX};
    private static final int[] NO_TARGETS = {-1, 17, MIN, MAX};
    private static final int[] SOME_LENGTHS = {1, 2, 15, 16};

    // What it is

    private static void atMost512Calls() {
        sentence("An object is used for at most 512 calls after it has been made");
        SecretFlows changed = new SecretFlows();
        for (int call = 1; call <= 511; call++) {
            if (call % 2 == 1) {
                due("call " + call + ", put", changed.put(OUT, 1, 0), 1);
            } else {
                due("call " + call + ", clear", changed.clear(), 2);
            }
        }
        due("call 512, clear", changed.clear(), 2);
        SecretFlows asked = program(op(OUT, 1, 0));
        for (int call = 2; call <= 511; call++) {
            due("call " + call + ", out", asked.out(0, call % 4, 0), call % 4);
        }
        due("call 512, put", asked.put(OUT, 1, 0), 1);
        SecretFlows refused = new SecretFlows();
        for (int call = 1; call <= 511; call++) {
            due("call " + call + ", refused", refused.put(OUT, 4, 0), BAD_ARG);
        }
        due("call 512, put", refused.put(OUT, 3, 0), 1);
    }

    // Terms

    private static void oneToSixteenInstructions() {
        sentence("A PROGRAM has n INSTRUCTIONS, 1 to 16");
        SecretFlows f = new SecretFlows();
        due("size, the fewest", f.size(), 1);
        due("clear, the fewest", f.clear(), 1);
        due("size, never fewer", f.size(), 1);
        for (int n = 2; n <= 16; n++) {
            due("put instruction " + n, f.put(SET, 0, 0), n - 1);
            due("size", f.size(), n);
        }
        due("put instruction 17", f.put(SET, 0, 0), FULL);
        due("size, never more", f.size(), 16);
    }

    private static void placeNIsTheEnd() {
        sentence("at the PLACES 0 to n - 1; place n is the END");
        for (int n = 2; n <= 16; n++) {
            SecretFlows f = same(n, op(OUT, 0, 0));
            due("jump to place n - 1", f.set(0, JUMP, 0, n - 1), 0);
            due("jump to place n - 1: outs", f.outs(0, 0), 1);
            due("jump to place n - 1: comeTo", f.comeTo(n - 1), 1);
            due("jump to place n - 1: meeting", f.meeting(0), n - 1);
            due("jump to place n", f.set(0, JUMP, 0, n), 0);
            due("jump to place n: outs", f.outs(0, 0), 0);
            due("jump to place n: comeTo", f.comeTo(n - 1), 0);
            due("jump to place n: meeting", f.meeting(0), n);
            due("jump to place n: run", f.run(0, 0), DONE);
        }
    }

    private static void fourRegisters() {
        sentence("There are four REGISTERS, 0 to 3");
        for (int r = 0; r <= 3; r++) {
            SecretFlows f = program(op(SET, r, 3), op(OUT, 0, 0), op(OUT, 1, 0), op(OUT, 2, 0), op(OUT, 3, 0));
            int[] want = {1, 2, 0, 0};
            want[r] = 3;
            outputIs("only register " + r + " changes", f, 1, 2, want);
            knowingAre("only register " + r + " forgets", f, 1, r == 1 ? new int[0] : new int[] {1});
        }
        SecretFlows f = new SecretFlows();
        due("put with register -1", f.put(OUT, -1, 0), BAD_ARG);
        due("put with register 4", f.put(OUT, 4, 0), BAD_ARG);
    }

    private static void numbersModuloFour() {
        sentence("numbers from 0 to 3; sums and differences are taken modulo 4");
        for (int a = 0; a <= 3; a++) {
            for (int b = 0; b <= 3; b++) {
                int[][] sum = {op(SET, 2, a), op(SET, 3, b), op(ADD, 2, 3), op(OUT, 2, 0), op(OUT, 3, 0)};
                outputIs(a + " + " + b, program(sum), 1, 1, (a + b) & 3, b);
                int[][] difference = {op(SET, 2, a), op(SET, 3, b), op(SUB, 2, 3), op(OUT, 2, 0), op(OUT, 3, 0)};
                outputIs(a + " - " + b, program(difference), 1, 1, (a - b) & 3, b);
            }
            outputIs(a + " + itself", program(op(ADD, 0, 0), op(OUT, 0, 0)), a, 1, 2 * a & 3);
            outputIs(a + " - itself", program(op(SUB, 0, 0), op(OUT, 0, 0)), a, 1, 0);
        }
    }

    private static void wrapsAgainAndAgain() {
        sentence("numbers from 0 to 3; sums and differences are taken modulo 4, many times");
        for (int v = 0; v <= 3; v++) {
            SecretFlows up = same(16, op(ADD, 0, 1));
            up.set(15, OUT, 0, 0);
            outputIs("2 + 15 times " + v, up, 2, v, (2 + 15 * v) & 3);
            SecretFlows down = same(16, op(SUB, 0, 1));
            down.set(15, OUT, 0, 0);
            outputIs("2 - 15 times " + v, down, 2, v, (2 - 15 * v) & 3);
        }
        // A 4 that was not taken modulo 4 would not be zero.
        SecretFlows over = program(op(SET, 2, 1), op(ADD, 0, 2), op(ZERO, 0, 4), op(OUT, 2, 0));
        due("3 + 1 is zero", over.outs(3, 0), 0);
        due("2 + 1 is not zero", over.outs(2, 0), 1);
        SecretFlows below = program(op(SET, 2, 1), op(SUB, 0, 2), op(ZERO, 0, 4), op(OUT, 2, 0));
        due("1 - 1 is zero", below.outs(1, 0), 0);
        due("0 - 1 is not zero", below.outs(0, 0), 1);
    }

    private static void nextPlaceOfTheLast() {
        sentence("goes on at the next place");
        for (int n : SOME_LENGTHS) {
            for (int op : STRAIGHT) {
                SecretFlows f = same(n, op(op, 0, 0));
                due("op " + op + ", n " + n + ": run", f.run(1, 1), DONE);
                due("op " + op + ", n " + n + ": steps", f.steps(1, 1), n);
                due("op " + op + ", n " + n + ": comeTo the last", f.comeTo(n - 1), 1);
                due("op " + op + ", n " + n + ": meeting of the first", f.meeting(0), 1);
                due("op " + op + ", n " + n + ": meeting of the last", f.meeting(n - 1), n);
            }
        }
    }

    private static void moveTakesAndLeaves() {
        sentence("move r s: register r becomes what register s has");
        for (int v = 0; v <= 3; v++) {
            outputIs("move of " + v, program(op(MOVE, 3, 0), op(OUT, 3, 0), op(OUT, 0, 0)), v, 1, v, v);
            outputIs("move of 0 onto " + v, program(op(MOVE, 0, 3), op(OUT, 3, 0), op(OUT, 0, 0)), v, 1, 0, 0);
            outputIs("move onto itself", program(op(MOVE, 0, 0), op(OUT, 0, 0)), v, 1, v);
        }
    }

    private static void jumpZeroToN() {
        sentence("jump t: goes on at place t (0 to n)");
        int[] targets = {0, 1, 2, 3, 4, 5, 16};
        int[] wantSteps = {60, 60, 4, 3, 2, 2, 2};
        int[] wantOuts = {30, 1, 3, 2, 1, 1, 1};
        int[] wantMeeting = {NONE, NONE, 2, 3, 4, 4, 4};
        for (int k = 0; k < targets.length; k++) {
            String what = "jump " + targets[k] + " at place 1 of 4";
            SecretFlows f = program(op(OUT, 0, 0), op(JUMP, 0, targets[k]), op(OUT, 0, 0), op(OUT, 0, 0));
            due(what + ": run", f.run(0, 0), wantSteps[k] == 60 ? TIRED : DONE);
            due(what + ": steps", f.steps(0, 0), wantSteps[k]);
            due(what + ": outs", f.outs(0, 0), wantOuts[k]);
            due(what + ": meeting", f.meeting(1), wantMeeting[k]);
            due(what + ": comeTo(2)", f.comeTo(2), targets[k] == 2 ? 1 : 0);
            due(what + ": comeTo(3)", f.comeTo(3), targets[k] == 2 || targets[k] == 3 ? 1 : 0);
        }
    }

    private static void zeroOnlyAtZero() {
        sentence("zero r t: goes on at place t if register r has 0, else at the next place");
        SecretFlows skip = program(op(ZERO, 0, 2), op(OUT, 0, 0));
        SecretFlows last = program(op(ZERO, 0, 0));
        SecretFlows back = program(op(OUT, 0, 0), op(ZERO, 0, 0));
        for (int v = 0; v <= 3; v++) {
            due("zero of " + v + ": outs", skip.outs(v, 1), v == 0 ? 0 : 1);
            due("zero of " + v + " to itself, next is the end: run", last.run(v, 1), v == 0 ? TIRED : DONE);
            due("zero of " + v + " to itself, next is the end: steps", last.steps(v, 1), v == 0 ? 60 : 1);
            due("zero of " + v + " back: outs", back.outs(v, 1), v == 0 ? 30 : 1);
        }
        SecretFlows same = program(op(ZERO, 0, 1));
        due("zero with both at the end: steps of 0", same.steps(0, 0), 1);
        due("zero with both at the end: steps of 1", same.steps(1, 0), 1);
        due("zero with both at the end: meeting", same.meeting(0), 1);
    }

    private static void haltAnywhere() {
        sentence("halt: goes on at the end");
        SecretFlows first = same(16, op(OUT, 0, 0));
        first.set(0, HALT, 0, 0);
        due("halt at place 0: steps", first.steps(0, 0), 1);
        due("halt at place 0: outs", first.outs(0, 0), 0);
        due("halt at place 0: meeting", first.meeting(0), 16);
        due("halt at place 0: comeTo(1)", first.comeTo(1), 0);
        SecretFlows last = same(16, op(OUT, 0, 0));
        last.set(15, HALT, 0, 0);
        due("halt at place 15: steps", last.steps(0, 0), 16);
        due("halt at place 15: outs", last.outs(0, 0), 15);
        due("halt at place 15: meeting", last.meeting(15), 16);
        due("halt at place 15: run", last.run(0, 0), DONE);
    }

    private static void runsBegin() {
        sentence("A RUN begins at place 0, with p in register 0, s in register 1 and 0 in the others");
        SecretFlows f = program(op(OUT, 0, 0), op(OUT, 1, 0), op(OUT, 2, 0), op(OUT, 3, 0), op(SET, 2, 3), op(SET, 3, 3));
        for (int p = 0; p <= 3; p++) {
            for (int s = 0; s <= 3; s++) {
                outputIs("run with " + p + " and " + s, f, p, s, p, s, 0, 0);
            }
        }
    }

    private static void tiredAfterSixty() {
        sentence("DONE when it comes to the end. If it has done 60 instructions and is not at the end, it is TIRED");
        for (int k = 0; k <= 9; k++) {
            due("run of " + (56 + k), longRun(k).run(0, 1), k <= 4 ? DONE : TIRED);
            due("steps of " + (56 + k), longRun(k).steps(0, 1), k <= 4 ? 56 + k : 60);
        }
        // Register 0 has 0 and register 2 has 1 there: all four come to the end.
        int[][] lasts = {op(HALT, 0, 0), op(JUMP, 0, 16), op(ZERO, 0, 16), op(ZERO, 2, 0)};
        int[] out = op(OUT, 1, 0);
        for (int[] last : lasts) {
            due("op " + last[0] + " is the 59th: run", after56(out, out, last).run(0, 1), DONE);
            due("op " + last[0] + " is the 59th: steps", after56(out, out, last).steps(0, 1), 59);
            due("op " + last[0] + " is the 60th: run", after56(out, out, out, last).run(0, 1), DONE);
            due("op " + last[0] + " is the 60th: steps", after56(out, out, out, last).steps(0, 1), 60);
            due("op " + last[0] + " is the 61st: run", after56(out, out, out, out, last).run(0, 1), TIRED);
            due("op " + last[0] + " is the 61st: steps", after56(out, out, out, out, last).steps(0, 1), 60);
        }
        due("the 60th goes elsewhere: run", after56(out, out, out, op(JUMP, 0, 0)).run(0, 1), TIRED);
    }

    private static void outputOfAllThatIsPutOut() {
        sentence("Its OUTPUT is the row of all that it has put out");
        outputIs("nothing", new SecretFlows(), 1, 2);
        outputIs("the 60th is put out", longRun(4), 0, 2, 2, 2, 2, 2);
        outputIs("the 61st is not put out", longRun(5), 0, 2, 2, 2, 2, 2);
        outputIs("only the 60th", after56(op(SET, 0, 0), op(SET, 0, 0), op(SET, 0, 0), op(OUT, 1, 0)), 0, 3, 3);
        outputIs("only the 61st", after56(op(SET, 0, 0), op(SET, 0, 0), op(SET, 0, 0), op(SET, 0, 0), op(OUT, 1, 0)), 0, 3);
    }

    private static void zeroMayAtBoth() {
        sentence("a place where the instruction at the one before may go on (zero may at both)");
        SecretFlows always = program(op(ZERO, 2, 2), op(OUT, 0, 0), op(HALT, 0, 0));
        due("next place though it is always 0", always.comeTo(1), 1);
        due("no run comes there", always.outs(0, 0), 0);
        SecretFlows never = program(op(SET, 2, 1), op(ZERO, 2, 3), op(HALT, 0, 0), op(OUT, 0, 0));
        due("target though it is never 0", never.comeTo(3), 1);
        due("no run comes to the target", never.outs(0, 0), 0);
        SecretFlows straight = program(op(SET, 2, 1), op(JUMP, 0, 3), op(OUT, 0, 0), op(HALT, 0, 0));
        due("jump may not at the next place", straight.comeTo(2), 0);
    }

    private static void meetingPlaces() {
        sentence("a MEETING PLACE of a place b that is not q if there is a way from b to the end, and every way has q in it");
        SecretFlows self = program(op(OUT, 0, 0), op(ZERO, 0, 0), op(OUT, 0, 0));
        due("not b itself", self.meeting(0), 1);
        due("not b itself, though ways come back", self.meeting(1), 2);
        due("no way to the end", program(op(JUMP, 0, 0), op(HALT, 0, 0)).meeting(0), NONE);
        due("no way to the end, two places", program(op(OUT, 0, 0), op(JUMP, 0, 0)).meeting(0), NONE);
        due("only the end is in every way", program(op(ZERO, 0, 2), op(HALT, 0, 0), op(HALT, 0, 0)).meeting(0), 3);
        // The ways through place 1 never come to the end, so they need not have place 3 in them.
        SecretFlows trap = program(op(ZERO, 0, 3), op(SET, 0, 0), op(JUMP, 0, 1), op(SET, 0, 0), op(HALT, 0, 0));
        due("ways that never end do not count", trap.meeting(0), 3);
        due("in the ways that never end", trap.meeting(1), NONE);
        SecretFlows missed = program(op(ZERO, 0, 3), op(OUT, 0, 0), op(ZERO, 0, 4), op(OUT, 0, 0), op(OUT, 0, 0));
        due("one way of three misses place 3", missed.meeting(0), 4);
        SecretFlows wide = same(16, op(OUT, 0, 0));
        wide.set(0, ZERO, 0, 15);
        due("from place 0 to place 15", wide.meeting(0), 15);
        wide.set(0, ZERO, 0, 16);
        due("from place 0 to the end", wide.meeting(0), 16);
    }

    private static void underWithAtLeastOneStep() {
        sentence("UNDER place b if there is a way from b to q, with at least one step, that has no meeting place of b in it (q may be b)");
        SecretFlows straight = same(3, op(OUT, 0, 0));
        due("no way back to b", straight.under(0, 0), 0);
        due("q is a meeting place", straight.under(1, 0), 0);
        due("q is behind a meeting place", straight.under(2, 0), 0);
        due("q is before b", straight.under(0, 1), 0);
        due("one step back to b", program(op(ZERO, 0, 0)).under(0, 0), 1);
        due("one step back to b, no way to the end", program(op(JUMP, 0, 0)).under(0, 0), 1);
        // From place 1 each way back to it comes through place 0, which is a meeting place of place 1.
        SecretFlows body = program(op(ZERO, 0, 2), op(JUMP, 0, 0), op(HALT, 0, 0));
        underAre("the only way back has a meeting place in it", body, 1);
        underAre("back to b without a meeting place", body, 0, 0, 1);
        underAre("up to where they meet", branchOnSecret(), 0, 1, 2, 3);
        SecretFlows wide = same(16, op(OUT, 0, 0));
        wide.set(0, ZERO, 0, 16);
        underAre("all but b up to the end", wide, 0, 1, 2, 3, 4, 5, 6, 7, 8, 9, 10, 11, 12, 13, 14, 15);
        wide.set(15, JUMP, 0, 0);
        underAre("all and b", wide, 0, 0, 1, 2, 3, 4, 5, 6, 7, 8, 9, 10, 11, 12, 13, 14, 15);
    }

    private static void comeToFromPlaceZero() {
        sentence("A place is COME TO if there is a way from place 0 to it");
        due("place 0 without a step", new SecretFlows().comeTo(0), 1);
        SecretFlows f = same(16, op(HALT, 0, 0));
        f.set(0, JUMP, 0, 15);
        due("place 0 when no way comes back", f.comeTo(0), 1);
        due("place 15", f.comeTo(15), 1);
        due("place 14", f.comeTo(14), 0);
        due("place 1", f.comeTo(1), 0);
        SecretFlows longest = same(16, op(OUT, 0, 0));
        due("place 15 by fifteen steps", longest.comeTo(15), 1);
        SecretFlows other = program(op(HALT, 0, 0), op(JUMP, 0, 2), op(JUMP, 0, 1));
        due("only from places not come to", other.comeTo(2), 0);
    }

    private static void knowingAtPlaceZero() {
        sentence("register 1 knows at place 0");
        knowingAre("only register 1", new SecretFlows(), 0, 1);
        SecretFlows forgets = program(op(SET, 1, 0), op(ZERO, 0, 0));
        knowingAre("though it is set and ways come back", forgets, 0, 1);
        knowingAre("not behind the set", forgets, 1);
        knowingAre("others by a way that comes back", program(op(OUT, 0, 0), op(MOVE, 3, 1), op(ZERO, 0, 0)), 0, 1, 3);
    }

    private static void knowingIsTheLeast() {
        sentence("KNOWING is the least relation");
        SecretFlows round = program(op(MOVE, 2, 3), op(ADD, 3, 2), op(JUMP, 0, 0));
        knowingAre("registers 2 and 3 know only if the other does", round, 0, 1);
        knowingAre("registers 2 and 3 know only if the other does", round, 2, 1);
        SecretFlows branch = program(op(ZERO, 2, 2), op(SET, 2, 1), op(ZERO, 0, 0), op(HALT, 0, 0));
        due("secret only if it is secret", branch.secret(0), 0);
        knowingAre("knows only if it is secret", branch, 0, 1);
        branch.set(0, ZERO, 1, 2);
        knowingAre("knows for it is secret", branch, 0, 1, 2);
        branch.set(0, ZERO, 2, 2);
        knowingAre("knows no more", branch, 0, 1);
        due("secret no more", branch.secret(0), 0);
        due("under no secret place any more", changedToOut(branch).bad(), NONE);
    }

    private static SecretFlows changedToOut(SecretFlows f) {
        due("set an out", f.set(1, OUT, 2, 0), 0);
        return f;
    }

    /** Blocks of two places, each leading to the block before it: what is learnt goes round backwards. */
    private static SecretFlows backwards(int[]... onTheWay) {
        SecretFlows f = same(16, op(JUMP, 0, 14));
        for (int k = 0; k < onTheWay.length; k++) {
            int place = 14 - 2 * k;
            f.set(place, onTheWay[k][0], onTheWay[k][1], onTheWay[k][2]);
            f.set(place + 1, JUMP, 0, place - 2);
        }
        return f;
    }

    private static void knowingGoesRoundManyTimes() {
        sentence("KNOWING is such that register r knows at j if, for every place i and j");
        int[] skip = op(OUT, 0, 0);
        // One register more learns in each round, against the order of the places, until place 4 is secret.
        SecretFlows f = backwards(op(MOVE, 0, 2), op(MOVE, 2, 3), op(MOVE, 3, 1), op(SET, 1, 0), skip, op(ZERO, 0, 16), skip);
        knowingAre("round and round", f, 14, 0, 1, 2, 3);
        due("secret after all rounds", f.secret(4), 1);
        knowingAre("register 1 is set under place 4", f, 2, 0, 1, 2, 3);
        f.set(4, ZERO, 1, 16);
        due("register 1 does not know there", f.secret(4), 0);
        knowingAre("register 1 is set under no secret place", f, 2, 0, 2, 3);
    }

    private static void knowingBeforeTheInstruction() {
        sentence("it tells of the time before the instruction at i is done");
        SecretFlows f = program(op(MOVE, 2, 1), op(SET, 1, 0), op(HALT, 0, 0));
        knowingAre("before the move", f, 0, 1);
        knowingAre("after the move, before the set", f, 1, 1, 2);
        knowingAre("after the set", f, 2, 2);
    }

    private static void knowingFromPlacesComeTo() {
        sentence("for every place i that is come to, not the end, and every place j where its instruction may go on");
        int[] move = op(MOVE, 2, 1);
        int[] halt = op(HALT, 0, 0);
        SecretFlows apart = program(op(JUMP, 0, 2), move, halt);
        knowingAre("place 1 is not come to", apart, 1);
        knowingAre("place 1 hands nothing on", apart, 2, 1);
        SecretFlows together = program(op(ZERO, 0, 2), move, halt);
        knowingAre("place 1 is come to", together, 1, 1);
        knowingAre("place 1 hands on", together, 2, 1, 2);
        SecretFlows ends = program(op(MOVE, 2, 1), op(JUMP, 0, 3), op(OUT, 2, 0));
        knowingAre("the end hands nothing on to place 0", ends, 0, 1);
        knowingAre("a jump to the end hands nothing on to the next place", ends, 2);
    }

    private static void onlyFourOpsChange() {
        sentence("only set, move, add and sub change their register r");
        SecretFlows f = program(op(OUT, 1, 0), op(JUMP, 1, 2), op(ZERO, 1, 3), op(HALT, 1, 0));
        for (int i = 0; i <= 3; i++) {
            knowingAre("out, jump and zero change nothing", f, i, 1);
        }
        for (int op : WITH_NUMBER) {
            knowingAre("op " + op + " changes register 1 only", program(op(MOVE, 2, 1), op(op, 1, 0), op(HALT, 0, 0)), 2,
                    op == ADD || op == SUB ? new int[] {1, 2} : new int[] {2});
        }
    }

    private static void movesAndSumsKnow() {
        sentence("it is move r s and s knows at i, or add r s or sub r s and r or s knows at i");
        int[] halt = op(HALT, 0, 0);
        knowingAre("move, s knows", program(op(MOVE, 3, 1), halt), 1, 1, 3);
        knowingAre("move, only r knows", program(op(MOVE, 1, 3), halt), 1);
        knowingAre("move of itself", program(op(MOVE, 1, 1), halt), 1, 1);
        int[] both = {ADD, SUB};
        for (int op : both) {
            knowingAre("op " + op + ", s knows", program(op(op, 3, 1), halt), 1, 1, 3);
            knowingAre("op " + op + ", r knows", program(op(op, 1, 3), halt), 1, 1);
            knowingAre("op " + op + ", both know", program(op(op, 1, 1), halt), 1, 1);
            knowingAre("op " + op + ", none knows", program(op(op, 0, 3), halt), 1, 1);
        }
        // The number of a set is no register.
        int[][] allKnow = {op(MOVE, 0, 1), op(MOVE, 2, 1), op(MOVE, 3, 1)};
        for (int v = 0; v <= 3; v++) {
            knowingAre("set 3 " + v, program(allKnow[0], allKnow[1], allKnow[2], op(SET, 3, v), halt), 4, 0, 1, 2);
        }
    }

    private static void changedUnderSecretPlaces() {
        sentence("it changes register r, and i is under some place b that is come to, with an instruction zero q t such that q knows at b");
        int[] halt = op(HALT, 0, 0);
        for (int op : WITH_NUMBER) {
            SecretFlows f = program(op(ZERO, 1, 2), op(op, 2, 0), op(op, 3, 0), halt);
            knowingAre("op " + op + " under it", f, 2, 1, 2);
            knowingAre("op " + op + " where they meet is not under it", f, 3, 1, 2);
        }
        knowingAre("q does not know", program(op(ZERO, 0, 2), op(SET, 2, 0), halt), 2, 1);
        knowingAre("q knows no more", program(op(SET, 1, 0), op(ZERO, 1, 3), op(SET, 2, 0), halt), 3);
        knowingAre("b is not come to", program(op(JUMP, 0, 2), op(ZERO, 1, 3), op(SET, 2, 0), halt), 3, 1);
        knowingAre("b is no zero", program(op(OUT, 1, 0), op(SET, 2, 0), halt), 2, 1);
        // The one register that place 0 changes is changed under place 1, which comes after it.
        knowingAre("b is behind i", program(op(SET, 2, 0), op(ZERO, 1, 0), halt), 2, 1, 2);
        knowingAre("not changed", program(op(ZERO, 1, 2), op(OUT, 2, 0), halt), 2, 1);
    }

    private static void secretPlaces() {
        sentence("Such a place b is called SECRET");
        int[] halt = op(HALT, 0, 0);
        due("q knows", program(op(ZERO, 1, 0)).secret(0), 1);
        due("q does not know", program(op(ZERO, 0, 0)).secret(0), 0);
        due("both go on at the same place", program(op(ZERO, 1, 1), halt).secret(0), 1);
        due("nothing under it", program(op(ZERO, 1, 16)).secret(0), 1);
        due("not come to", program(halt, op(ZERO, 1, 0)).secret(1), 0);
        due("no zero", program(op(OUT, 1, 0), op(JUMP, 1, 0)).secret(1), 0);
        SecretFlows last = same(16, op(OUT, 0, 0));
        last.set(15, ZERO, 1, 0);
        due("at place 15", last.secret(15), 1);
        due("at place 14", last.secret(14), 0);
    }

    private static void badPlaces() {
        sentence("A place i that is come to, with an instruction out r, is BAD if r knows at i, or i is under a secret place");
        int[] halt = op(HALT, 0, 0);
        due("r knows", program(op(OUT, 1, 0)).bad(), 0);
        due("r knows, not come to", program(halt, op(OUT, 1, 0)).bad(), NONE);
        due("r does not know", program(op(OUT, 0, 0)).bad(), NONE);
        due("under a secret place", program(op(ZERO, 1, 2), op(OUT, 0, 0)).bad(), 1);
        due("where the ways of a secret place meet", program(op(ZERO, 1, 1), op(OUT, 0, 0)).bad(), NONE);
        due("under a zero that is not secret", program(op(ZERO, 0, 2), op(OUT, 0, 0)).bad(), NONE);
        due("under a zero that is not come to", program(op(JUMP, 0, 2), op(ZERO, 1, 3), op(OUT, 0, 0)).bad(), NONE);
        due("no out", program(op(MOVE, 0, 1), op(ZERO, 0, 0)).bad(), NONE);
        due("before a secret place", program(op(OUT, 0, 0), op(ZERO, 1, 2)).bad(), NONE);
        due("before a secret place that leads back", program(op(OUT, 0, 0), op(ZERO, 1, 0)).bad(), 0);
    }

    private static void safePrograms() {
        sentence("A program is SAFE if no place is bad");
        SecretFlows f = same(16, op(OUT, 0, 0));
        due("no bad place", f.safe(), 1);
        f.set(15, OUT, 1, 0);
        due("one at place 15", f.safe(), 0);
        f.set(15, OUT, 0, 0);
        f.set(0, OUT, 1, 0);
        due("one at place 0", f.safe(), 0);
        f.set(0, HALT, 0, 0);
        f.set(1, OUT, 1, 0);
        due("one that is not come to", f.safe(), 1);
    }

    private static void constantsOfTheFace() {
        sentence("BAD_ARG = -1, FULL = -2, NONE = -4, DONE = 0, TIRED = 1");
        due("BAD_ARG", SecretFlows.BAD_ARG, -1);
        due("FULL", SecretFlows.FULL, -2);
        due("NONE", SecretFlows.NONE, -4);
        due("DONE", SecretFlows.DONE, 0);
        due("TIRED", SecretFlows.TIRED, 1);
    }

    private static void placesAsked() {
        sentence("In the calls below a place that is not 0 to n - 1 answers BAD_ARG");
        for (int n : SOME_LENGTHS) {
            int[] noPlaces = {-1, n, n + 1, MIN, MAX};
            for (int i : noPlaces) {
                placeIsRefused(same(n, op(OUT, 0, 0)), i);
            }
            int[] places = {0, n - 1};
            for (int i : places) {
                SecretFlows f = same(n, op(OUT, 0, 0));
                due("comeTo(" + i + ")", f.comeTo(i), 1);
                due("meeting(" + i + ")", f.meeting(i), i + 1);
                due("secret(" + i + ")", f.secret(i), 0);
                due("knows(" + i + ", 1)", f.knows(i, 1), 1);
                due("under(" + i + ", 0)", f.under(i, 0), 0);
                due("under(0, " + i + ")", f.under(0, i), 0);
            }
        }
    }

    private static void placeIsRefused(SecretFlows f, int i) {
        String n = " of " + f.size();
        due("comeTo(" + i + ")" + n, f.comeTo(i), BAD_ARG);
        due("meeting(" + i + ")" + n, f.meeting(i), BAD_ARG);
        due("secret(" + i + ")" + n, f.secret(i), BAD_ARG);
        for (int r = 0; r <= 3; r++) {
            due("knows(" + i + ", " + r + ")" + n, f.knows(i, r), BAD_ARG);
        }
        due("under(" + i + ", 0)" + n, f.under(i, 0), BAD_ARG);
        due("under(0, " + i + ")" + n, f.under(0, i), BAD_ARG);
        due("under(" + i + ", " + i + ")" + n, f.under(i, i), BAD_ARG);
    }

    private static void registersAsked() {
        sentence("then a register that is not 0 to 3");
        SecretFlows f = program(op(MOVE, 0, 1), op(MOVE, 2, 1), op(MOVE, 3, 1), op(HALT, 0, 0));
        for (int r : NO_NUMBERS) {
            due("knows(0, " + r + ")", f.knows(0, r), BAD_ARG);
            due("knows(3, " + r + ")", f.knows(3, r), BAD_ARG);
        }
        knowingAre("registers 0 to 3", f, 0, 1);
        knowingAre("registers 0 to 3", f, 3, 0, 1, 2, 3);
    }

    private static void numbersAsked() {
        sentence("or a number for public or secret, that is not 0 to 3");
        for (int bad : NO_NUMBERS) {
            for (int good = 0; good <= 3; good++) {
                runIsRefused(branchOnSecret(), bad, good);
                runIsRefused(branchOnSecret(), good, bad);
            }
            due("shows(" + bad + ")", branchOnSecret().shows(bad), BAD_ARG);
        }
        SecretFlows f = program(op(OUT, 0, 0), op(OUT, 1, 0));
        for (int p = 0; p <= 3; p += 3) {
            for (int s = 0; s <= 3; s += 3) {
                due("run(" + p + ", " + s + ")", f.run(p, s), DONE);
                due("steps(" + p + ", " + s + ")", f.steps(p, s), 2);
                outputIs("with " + p + ", " + s, f, p, s, p, s);
            }
            due("shows(" + p + ")", f.shows(p), 4);
        }
    }

    private static void runIsRefused(SecretFlows f, int p, int s) {
        String with = "(" + p + ", " + s + ")";
        due("run" + with, f.run(p, s), BAD_ARG);
        due("steps" + with, f.steps(p, s), BAD_ARG);
        due("outs" + with, f.outs(p, s), BAD_ARG);
        due("out" + with + " at 0", f.out(p, s, 0), BAD_ARG);
    }

    private static void twoAskedWrongAtOnce() {
        sentence("a place, tested first, answers BAD_ARG, then a register, or a number for public or secret");
        SecretFlows f = branchOnSecret();
        int[] noPlaces = {-1, 6, MIN, MAX};
        for (int i : noPlaces) {
            for (int bad : NO_NUMBERS) {
                due("knows(" + i + ", " + bad + ")", f.knows(i, bad), BAD_ARG);
                due("under(" + i + ", " + bad + ")", f.under(i, bad == 4 ? 6 : bad), BAD_ARG);
            }
        }
        for (int p : NO_NUMBERS) {
            for (int s : NO_NUMBERS) {
                runIsRefused(f, p, s);
            }
            // The numbers are tested before it is asked whether there is an i-th one.
            due("out(" + p + ", 0, -1)", f.out(p, 0, -1), BAD_ARG);
            due("out(0, " + p + ", -1)", f.out(0, p, -1), BAD_ARG);
            due("out(" + p + ", 0, MAX)", f.out(p, 0, MAX), BAD_ARG);
            due("out(0, " + p + ", MAX)", f.out(0, p, MAX), BAD_ARG);
        }
    }

    // Promises 1 to 5: the program

    private static void newProgramIsHalt() {
        sentence("Promise 1: The program has one instruction, halt");
        isOneHalt("new", new SecretFlows());
        SecretFlows f = new SecretFlows();
        due("place 0 is there", f.set(0, OUT, 1, 0), 0);
        due("place 1 is not there", f.set(1, OUT, 1, 0), NONE);
    }

    private static void putOps() {
        sentence("Promise 2: op not 0 to 7 answers BAD_ARG");
        for (int bad : NO_OPS) {
            due("put(" + bad + ", 0, 0)", new SecretFlows().put(bad, 0, 0), BAD_ARG);
        }
        for (int op = 0; op <= 7; op++) {
            due("put(" + op + ", 0, 0)", new SecretFlows().put(op, 0, 0), 1);
        }
    }

    private static void putRegisters() {
        sentence("Promise 2: r not 0 to 3 (ops 0 to 4 and 6) answers BAD_ARG");
        for (int op : WITH_REGISTER) {
            for (int bad : NO_NUMBERS) {
                due("put(" + op + ", " + bad + ", 0)", new SecretFlows().put(op, bad, 0), BAD_ARG);
            }
            for (int r = 0; r <= 3; r++) {
                due("put(" + op + ", " + r + ", 0)", new SecretFlows().put(op, r, 0), 1);
            }
        }
        for (int bad : NO_NUMBERS) {
            due("jump has no r: " + bad, new SecretFlows().put(JUMP, bad, 0), 1);
            due("halt has no r: " + bad, new SecretFlows().put(HALT, bad, 0), 1);
        }
    }

    private static void putNumbers() {
        sentence("Promise 2: x not 0 to 3 (ops 0 to 3) answers BAD_ARG");
        for (int op : WITH_NUMBER) {
            for (int bad : NO_NUMBERS) {
                due("put(" + op + ", 0, " + bad + ")", new SecretFlows().put(op, 0, bad), BAD_ARG);
            }
            for (int x = 0; x <= 3; x++) {
                due("put(" + op + ", 0, " + x + ")", new SecretFlows().put(op, 0, x), 1);
            }
        }
        int[] anyNumbers = {-1, 4, 17, MIN, MAX};
        for (int any : anyNumbers) {
            due("out has no x: " + any, new SecretFlows().put(OUT, 0, any), 1);
            due("halt has no x: " + any, new SecretFlows().put(HALT, 0, any), 1);
        }
    }

    private static void putTargets() {
        sentence("Promise 2: x not 0 to 16 (ops 5 and 6) answers BAD_ARG");
        for (int op : WITH_TARGET) {
            for (int bad : NO_TARGETS) {
                due("put(" + op + ", 0, " + bad + ")", new SecretFlows().put(op, 0, bad), BAD_ARG);
            }
            for (int x = 0; x <= 16; x++) {
                due("put(" + op + ", 0, " + x + ")", new SecretFlows().put(op, 0, x), 1);
            }
        }
    }

    private static void putTwoWrongAtOnce() {
        sentence("Promise 2: Tested in this order: op, r, x; FULL");
        SecretFlows full = same(16, op(HALT, 0, 0));
        SecretFlows free = new SecretFlows();
        int[][] wrong = {
            op(8, 0, 0), op(-1, 0, 0), op(8, 4, 17), op(-1, -1, -1),
            op(SET, 4, 0), op(SUB, -1, 0), op(OUT, 4, 0), op(OUT, -1, 0), op(ZERO, 4, 0), op(ZERO, -1, 0),
            op(SET, 0, 4), op(SUB, 3, -1), op(MOVE, 4, 4), op(ADD, -1, -1),
            op(JUMP, 0, 17), op(JUMP, 0, -1), op(ZERO, 0, 17), op(ZERO, 3, -1), op(ZERO, 4, 17), op(JUMP, 4, 17),
        };
        for (int[] each : wrong) {
            String call = "put(" + each[0] + ", " + each[1] + ", " + each[2] + ")";
            due(call + " into a full program", full.put(each[0], each[1], each[2]), BAD_ARG);
            due(call + " into a free program", free.put(each[0], each[1], each[2]), BAD_ARG);
        }
        int[][] right = {op(SET, 3, 3), op(OUT, 3, 99), op(JUMP, 99, 16), op(ZERO, 3, 16), op(HALT, 99, 99), op(SET, 0, 0)};
        for (int[] each : right) {
            due("op " + each[0] + " into a full program", full.put(each[0], each[1], each[2]), FULL);
        }
    }

    private static void putAnswersItsPlace() {
        sentence("Promise 2: Otherwise its place");
        SecretFlows f = new SecretFlows();
        for (int place = 1; place <= 15; place++) {
            due("put", f.put(OUT, 0, 0), place);
        }
        due("put behind place 15", f.put(OUT, 0, 0), FULL);
        due("put again", f.put(OUT, 0, 0), FULL);
        f.clear();
        due("put after clear", f.put(OUT, 0, 0), 1);
    }

    private static void targetsBeyondTheEnd() {
        sentence("Promise 2: Targets beyond the end are the end");
        for (int x = 0; x <= 16; x++) {
            SecretFlows f = program(op(ZERO, 2, 2), op(HALT, 0, 0));
            f.put(JUMP, 0, x);
            boolean ends = x == 1 || x >= 3;
            due("jump " + x + " at place 2 of 3: run", f.run(0, 0), ends ? DONE : TIRED);
            due("jump " + x + " at place 2 of 3: steps", f.steps(0, 0), x == 1 ? 3 : ends ? 2 : 60);
            SecretFlows g = program(op(OUT, 0, 0), op(ZERO, 2, x));
            due("zero to " + x + " at place 1 of 2: run", g.run(0, 0), x >= 2 ? DONE : TIRED);
            due("zero to " + x + " at place 1 of 2: meeting", g.meeting(1), 2);
            due("zero to " + x + " at place 1 of 2: under", g.under(1, 1), x >= 2 ? 0 : 1);
        }
    }

    private static void setPlaces() {
        sentence("Promise 3: there is no place i before the end answers NONE");
        for (int n = 1; n <= 16; n++) {
            SecretFlows f = same(n, op(OUT, 0, 0));
            int[] noPlaces = {-1, n, n + 1, MIN, MAX};
            for (int i : noPlaces) {
                due("set at " + i + " of " + n, f.set(i, HALT, 0, 0), NONE);
            }
            due("set at 0 of " + n, f.set(0, OUT, 0, 0), 0);
            due("set at the last of " + n, f.set(n - 1, OUT, 1, 0), 0);
            due("the last one is set", f.out(2, 3, n - 1), 3);
            due("none is added", f.outs(2, 3), n);
        }
    }

    private static void setTwoWrongAtOnce() {
        sentence("Promise 3: Tested in this order: NONE; BAD_ARG as for put");
        SecretFlows f = branchOnSecret();
        int[] noPlaces = {-1, 6, MIN, MAX};
        for (int i : noPlaces) {
            due("no place " + i + ", no op", f.set(i, 8, 0, 0), NONE);
            due("no place " + i + ", no op", f.set(i, -1, 0, 0), NONE);
            due("no place " + i + ", no register", f.set(i, SET, 4, 0), NONE);
            due("no place " + i + ", no number", f.set(i, SET, 0, -1), NONE);
            due("no place " + i + ", no target", f.set(i, JUMP, 0, 17), NONE);
            due("no place " + i + ", nothing right", f.set(i, i, i, i), NONE);
        }
    }

    private static void setBadArguments() {
        sentence("Promise 3: BAD_ARG as for put. Otherwise 0");
        int[] places = {0, 15};
        for (int i : places) {
            SecretFlows f = same(16, op(HALT, 0, 0));
            for (int bad : NO_OPS) {
                due("set(" + i + ", " + bad + ", 0, 0)", f.set(i, bad, 0, 0), BAD_ARG);
            }
            for (int bad : NO_NUMBERS) {
                for (int op : WITH_REGISTER) {
                    due("set(" + i + ", " + op + ", " + bad + ", 0)", f.set(i, op, bad, 0), BAD_ARG);
                }
                for (int op : WITH_NUMBER) {
                    due("set(" + i + ", " + op + ", 0, " + bad + ")", f.set(i, op, 0, bad), BAD_ARG);
                }
                due("set(" + i + ", jump, " + bad + ", 0)", f.set(i, JUMP, bad, 0), 0);
                due("set(" + i + ", halt, " + bad + ", " + bad + ")", f.set(i, HALT, bad, bad), 0);
                due("set(" + i + ", out, 0, " + bad + ")", f.set(i, OUT, 0, bad), 0);
            }
            for (int op : WITH_TARGET) {
                for (int bad : NO_TARGETS) {
                    due("set(" + i + ", " + op + ", 0, " + bad + ")", f.set(i, op, 0, bad), BAD_ARG);
                }
                due("set(" + i + ", " + op + ", 0, 0)", f.set(i, op, 0, 0), 0);
                due("set(" + i + ", " + op + ", 0, 16)", f.set(i, op, 0, 16), 0);
            }
            for (int op : WITH_NUMBER) {
                due("set(" + i + ", " + op + ", 3, 3)", f.set(i, op, 3, 3), 0);
                due("set(" + i + ", " + op + ", 0, 0)", f.set(i, op, 0, 0), 0);
            }
            due("never FULL", f.put(HALT, 0, 0), FULL);
            due("the size stays", f.size(), 16);
        }
    }

    private static void clearOfAnyLength() {
        sentence("Promise 4: The program becomes one instruction, halt. Answers how many there were");
        for (int n = 1; n <= 16; n++) {
            SecretFlows f = same(n, op(OUT, 1, 0));
            due("clear of " + n, f.clear(), n);
            isOneHalt("cleared " + n, f);
        }
        // What the rules said of the old program is gone with it.
        int[][] telling = {op(ZERO, 1, 0), op(JUMP, 0, 0), op(MOVE, 0, 1)};
        for (int[] each : telling) {
            SecretFlows f = same(16, each);
            due("clear of op " + each[0], f.clear(), 16);
            isOneHalt("cleared op " + each[0], f);
        }
        SecretFlows full = same(16, op(OUT, 1, 0));
        due("put into full", full.put(OUT, 1, 0), FULL);
        due("a refused put is not counted", full.clear(), 16);
        due("clear again", full.clear(), 1);
    }

    private static void sizeCountsWhatIsThere() {
        sentence("Promise 5: n");
        SecretFlows f = same(15, op(OUT, 1, 0));
        due("size", f.size(), 15);
        due("refused put", f.put(OUT, 4, 0), BAD_ARG);
        due("size after a refused put", f.size(), 15);
        due("put", f.put(OUT, 3, 0), 15);
        due("put into full", f.put(OUT, 3, 0), FULL);
        due("size after FULL", f.size(), 16);
        due("set behind the end", f.set(16, OUT, 3, 0), NONE);
        due("set", f.set(15, HALT, 0, 0), 0);
        due("size after sets", f.size(), 16);
    }

    // Promises 6 to 12: what the rules say

    private static void comeToAnswers() {
        sentence("Promise 6: 1 if place i is come to, else 0");
        for (int n : SOME_LENGTHS) {
            SecretFlows f = same(n, op(HALT, 0, 0));
            for (int i = 0; i < n; i++) {
                due("comeTo(" + i + ") of " + n + " halts", f.comeTo(i), i == 0 ? 1 : 0);
            }
        }
    }

    private static void meetingOfNone() {
        sentence("Promise 7: The meeting place to which all ways come first; NONE if it has none");
        SecretFlows circle = same(16, op(OUT, 0, 0));
        circle.set(15, JUMP, 0, 0);
        for (int b = 0; b < 16; b++) {
            due("meeting(" + b + ") in a circle", circle.meeting(b), NONE);
        }
        circle.set(15, ZERO, 0, 0);
        for (int b = 0; b < 16; b++) {
            due("meeting(" + b + ") with a way out", circle.meeting(b), b + 1);
        }
        // Backwards: the first one on the ways has neither the least nor the greatest number.
        SecretFlows back = program(op(HALT, 0, 0), op(JUMP, 0, 0), op(JUMP, 0, 1), op(ZERO, 0, 2), op(JUMP, 0, 2));
        due("the first of three", back.meeting(3), 2);
        due("the first of two", back.meeting(2), 1);
        due("only the end", back.meeting(0), 5);
        due("place 0 is the first", back.meeting(1), 0);
    }

    private static void underAnswers() {
        sentence("Promise 8: 1 if place q is under place b, else 0");
        SecretFlows f = program(op(ZERO, 0, 2), op(OUT, 0, 0), op(OUT, 0, 0));
        due("q is the first argument", f.under(1, 0), 1);
        due("b is the second argument", f.under(0, 1), 0);
        due("under a place not come to", program(op(HALT, 0, 0), op(ZERO, 0, 3), op(OUT, 0, 0)).under(2, 1), 1);
    }

    private static void knowsAnswers() {
        sentence("Promise 9: 1 if register r knows at place i, else 0");
        SecretFlows f = same(16, op(OUT, 0, 0));
        f.set(0, MOVE, 3, 1);
        knowingAre("at place 0", f, 0, 1);
        knowingAre("at place 15", f, 15, 1, 3);
    }

    private static void secretAnswers() {
        sentence("Promise 10: 1 if place i is secret, else 0");
        for (int n : SOME_LENGTHS) {
            SecretFlows f = same(n, op(ZERO, 1, 16));
            due("secret(0) of " + n, f.secret(0), 1);
            due("secret of the last of " + n, f.secret(n - 1), 1);
            f.set(0, ZERO, 0, 16);
            due("secret(0) of " + n + ", public", f.secret(0), 0);
        }
    }

    private static void leastBad() {
        sentence("Promise 11: The least bad place; NONE if there is none");
        SecretFlows f = same(16, op(OUT, 0, 0));
        due("none", f.bad(), NONE);
        for (int i = 15; i >= 0; i--) {
            f.set(i, OUT, 1, 0);
            due("the least is " + i, f.bad(), i);
        }
        // The way comes to place 14 before it comes to place 13.
        SecretFlows back = same(16, op(OUT, 1, 0));
        back.set(0, JUMP, 0, 14);
        back.set(15, JUMP, 0, 13);
        due("the least, not the first on the way", back.bad(), 13);
    }

    private static void safeAnswers() {
        sentence("Promise 12: 1 if the program is safe, else 0");
        due("bad place 0 is no NONE", program(op(OUT, 1, 0)).safe(), 0);
        due("no out at all", new SecretFlows().safe(), 1);
        due("an out of the public number", program(op(OUT, 0, 0)).safe(), 1);
    }

    // Promises 13 to 18: what runs show

    private static void runEnds() {
        sentence("Promise 13: How the run with these numbers ends");
        // Register 0 comes to register 1 only if both are the same; then the run goes round.
        SecretFlows f = program(op(SUB, 0, 1), op(ZERO, 0, 1));
        for (int p = 0; p <= 3; p++) {
            for (int s = 0; s <= 3; s++) {
                due("run(" + p + ", " + s + ")", f.run(p, s), p == s ? TIRED : DONE);
                due("steps(" + p + ", " + s + ")", f.steps(p, s), p == s ? 60 : 2);
            }
        }
    }

    private static void stepsFromOneToSixty() {
        sentence("Promise 14: How many instructions the run with these numbers does");
        due("the fewest", new SecretFlows().steps(0, 0), 1);
        due("all of sixteen", same(16, op(SET, 0, 0)).steps(0, 0), 16);
        due("the most, done", longRun(4).steps(0, 0), 60);
        due("the most, tired", program(op(JUMP, 0, 0)).steps(0, 0), 60);
    }

    /** Fifteen outs and a jump back: no run can put out more in 60 instructions. */
    private static SecretFlows mostOuts() {
        SecretFlows f = same(16, op(OUT, 0, 0));
        f.set(0, OUT, 1, 0);
        f.set(15, JUMP, 0, 0);
        return f;
    }

    private static void outsFromNone() {
        sentence("Promise 15: How many numbers the run with these numbers puts out");
        due("none", new SecretFlows().outs(0, 0), 0);
        due("one", program(op(OUT, 0, 0)).outs(0, 0), 1);
        due("the most", mostOuts().outs(0, 3), 57);
        due("the most, done", same(16, op(OUT, 0, 0)).outs(0, 0), 16);
        due("none in 60 instructions", program(op(JUMP, 0, 0)).outs(0, 0), 0);
    }

    private static void outFirstAndLast() {
        sentence("Promise 16: The i-th number, 0 the first; NONE if there is none");
        int[] never = {-1, 57, 58, 59, 60, 61, 239, 240, MIN, MAX};
        SecretFlows most = mostOuts();
        for (int i : never) {
            for (int s = 0; s <= 3; s++) {
                due("out(2, " + s + ", " + i + ")", most.out(2, s, i), NONE);
            }
        }
        for (int s = 0; s <= 3; s++) {
            due("out(2, " + s + ", 0)", most.out(2, s, 0), s);
            due("out(2, " + s + ", 1)", most.out(2, s, 1), 2);
            due("out(2, " + s + ", 45)", most.out(2, s, 45), s);
            due("out(2, " + s + ", 56)", most.out(2, s, 56), 2);
        }
        SecretFlows none = new SecretFlows();
        due("no first", none.out(0, 0, 0), NONE);
        due("none before the first", none.out(0, 0, -1), NONE);
        // A longer output of another run, or of an older program, is not seen behind a shorter one.
        SecretFlows shorter = program(op(ZERO, 1, 2), op(OUT, 1, 0));
        due("with secret 1", shorter.out(0, 1, 0), 1);
        due("with secret 0", shorter.out(0, 0, 0), NONE);
        shorter.set(1, HALT, 0, 0);
        due("with secret 1, no out any more", shorter.out(0, 1, 0), NONE);
    }

    private static void showsNoneToFour() {
        sentence("Promise 17: How many different outputs the runs with this public number have that are done");
        due("0: none is done", program(op(OUT, 1, 0), op(JUMP, 0, 1)).shows(0), 0);
        due("1: all put out nothing", new SecretFlows().shows(0), 1);
        due("1: only one is done", program(op(OUT, 1, 0), op(ZERO, 1, 3), op(JUMP, 0, 2)).shows(0), 1);
        due("2: nothing or something", program(op(ZERO, 1, 2), op(OUT, 0, 0)).shows(0), 2);
        due("3: one is tired", program(op(OUT, 1, 0), op(ZERO, 1, 1)).shows(0), 3);
        due("4: all", program(op(OUT, 1, 0)).shows(0), 4);
        due("done with 60 instructions", longRun(4).shows(0), 4);
        due("tired with 60 instructions", longRun(5).shows(0), 0);
        // All do 59 instructions or more, and put out the secret in the 59th, but not all are done after 60.
        int[][] last = {op(SET, 3, 0), op(SET, 3, 0), op(OUT, 1, 0), op(ZERO, 1, 16), op(SET, 3, 0)};
        due("only secret 0 ends with the 60th", after56(last).shows(0), 1);
    }

    private static void showsOneBehindAnother() {
        sentence("Promise 17: different outputs");
        int[] out = op(OUT, 2, 0);
        due("one is the beginning of the other", program(out, op(ZERO, 1, 3), out).shows(0), 2);
        due("they differ in the first", program(op(OUT, 1, 0), out, out).shows(0), 4);
        due("they differ in the last of sixteen", differInTheLast().shows(0), 4);
        due("they are the same, by different ways", program(op(ZERO, 1, 3), out, op(HALT, 0, 0), out).shows(0), 1);
    }

    private static SecretFlows differInTheLast() {
        SecretFlows f = same(16, op(OUT, 2, 0));
        f.set(15, OUT, 1, 0);
        return f;
    }

    private static void leaksForOnePublicNumber() {
        sentence("Promise 18: 1 if for some public number two runs that are done have different outputs, else 0");
        due("nothing put out", new SecretFlows().leaks(), 0);
        due("different only with different public numbers", program(op(OUT, 0, 0)).leaks(), 0);
        due("only one is done", program(op(OUT, 1, 0), op(ZERO, 1, 3), op(JUMP, 0, 2)).leaks(), 0);
        due("none is done", program(op(OUT, 1, 0), op(JUMP, 0, 1)).leaks(), 0);
        due("two are done", program(op(OUT, 1, 0), op(ADD, 1, 1), op(ZERO, 1, 4), op(JUMP, 0, 3)).leaks(), 1);
        due("done with 60 instructions", longRun(4).leaks(), 1);
        due("only in the last of sixteen", differInTheLast().leaks(), 1);
        // A register that is not zero, but is zero after 0 is added, would hold a 4.
        SecretFlows beyond = program(op(ZERO, 0, 5), op(ADD, 0, 2), op(ZERO, 0, 4), op(HALT, 0, 0), op(OUT, 1, 0));
        due("for public 4 alone", beyond.leaks(), 0);
        for (int only = 0; only <= 3; only++) {
            SecretFlows f = program(op(SET, 2, only), op(SUB, 0, 2), op(ZERO, 0, 4), op(HALT, 0, 0), op(OUT, 1, 0));
            due("for public " + only + " alone", f.leaks(), 1);
            f.set(4, OUT, 3, 0);
            due("for none", f.leaks(), 0);
        }
    }

    // Promise 19

    private static void targetsStayAsGiven() {
        sentence("Promise 19: put and set: one that is beyond the end now is the place with its number once the program has that many");
        for (int t = 1; t <= 16; t++) {
            SecretFlows bySet = program(op(JUMP, 0, t));
            SecretFlows byPut = new SecretFlows();
            due("put a jump", byPut.put(JUMP, 0, t), 1);
            for (int n = 1; n <= 16; n++) {
                int goesTo = t < n ? t : n;
                due("jump " + t + " by set, n " + n + ": meeting", bySet.meeting(0), goesTo);
                due("jump " + t + " by set, n " + n + ": steps", bySet.steps(0, 0), 1 + n - goesTo);
                due("put", bySet.put(OUT, 0, 0), n == 16 ? FULL : n);
            }
            for (int n = 2; n <= 16; n++) {
                // A jump to place 1 is one to itself.
                due("jump " + t + " by put, n " + n + ": meeting", byPut.meeting(1), t == 1 ? NONE : t < n ? t : n);
                due("put", byPut.put(OUT, 0, 0), n == 16 ? FULL : n);
            }
        }
    }

    private static void targetsOfZeroStay() {
        sentence("Promise 19: targets stay as they were given, of zero too");
        for (int t = 2; t <= 16; t++) {
            SecretFlows f = program(op(ZERO, 1, t), op(OUT, 0, 0));
            for (int n = 2; n <= 16; n++) {
                int goesTo = t < n ? t : n;
                due("zero to " + t + ", n " + n + ": meeting", f.meeting(0), goesTo);
                due("zero to " + t + ", n " + n + ": outs of secret 0", f.outs(0, 0), n - goesTo);
                due("zero to " + t + ", n " + n + ": outs of secret 1", f.outs(0, 1), n - 1);
                due("zero to " + t + ", n " + n + ": the last before it", f.under(goesTo - 1, 0), 1);
                due("zero to " + t + ", n " + n + ": the last place", f.under(n - 1, 0), goesTo == n ? 1 : 0);
                due("put", f.put(OUT, 0, 0), n == 16 ? FULL : n);
            }
        }
    }

    private static void targetsEndWithClear() {
        sentence("Promise 19 with promise 4: a cleared program has no targets");
        SecretFlows f = program(op(JUMP, 0, 2), op(JUMP, 0, 3), op(OUT, 1, 0));
        due("clear", f.clear(), 3);
        for (int n = 2; n <= 16; n++) {
            due("put", f.put(OUT, 1, 0), n - 1);
            due("comeTo the last", f.comeTo(n - 1), 0);
            due("meeting", f.meeting(0), n);
        }
    }

    private static void testTerms() {
        atMost512Calls();
        oneToSixteenInstructions();
        placeNIsTheEnd();
        fourRegisters();
        numbersModuloFour();
        wrapsAgainAndAgain();
        nextPlaceOfTheLast();
        moveTakesAndLeaves();
        jumpZeroToN();
        zeroOnlyAtZero();
        haltAnywhere();
        runsBegin();
        tiredAfterSixty();
        outputOfAllThatIsPutOut();
        zeroMayAtBoth();
        meetingPlaces();
        underWithAtLeastOneStep();
        comeToFromPlaceZero();
        knowingAtPlaceZero();
        knowingIsTheLeast();
        knowingGoesRoundManyTimes();
        knowingBeforeTheInstruction();
        knowingFromPlacesComeTo();
        onlyFourOpsChange();
        movesAndSumsKnow();
        changedUnderSecretPlaces();
        secretPlaces();
        badPlaces();
        safePrograms();
        constantsOfTheFace();
        placesAsked();
        registersAsked();
        numbersAsked();
        twoAskedWrongAtOnce();
    }

    private static void testPromises() {
        newProgramIsHalt();
        putOps();
        putRegisters();
        putNumbers();
        putTargets();
        putTwoWrongAtOnce();
        putAnswersItsPlace();
        targetsBeyondTheEnd();
        setPlaces();
        setTwoWrongAtOnce();
        setBadArguments();
        clearOfAnyLength();
        sizeCountsWhatIsThere();
        comeToAnswers();
        meetingOfNone();
        underAnswers();
        knowsAnswers();
        secretAnswers();
        leastBad();
        safeAnswers();
        runEnds();
        stepsFromOneToSixty();
        outsFromNone();
        outFirstAndLast();
        showsNoneToFour();
        showsOneBehindAnother();
        leaksForOnePublicNumber();
        targetsStayAsGiven();
        targetsOfZeroStay();
        targetsEndWithClear();
    }

    public static void main(String[] args) {
        testTerms();
        testPromises();
        endTest();
    }
}
