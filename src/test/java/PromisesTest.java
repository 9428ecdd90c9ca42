// Hand-made cases for each promise of the document: ordinary inputs, the named edges, wrong inputs.
public final class PromisesTest extends Answers {
    private static void promise1NewObject() {
        isOneHalt("new", new SecretFlows());
        // Objects share nothing.
        SecretFlows a = branchOnSecret();
        isOneHalt("new beside another", new SecretFlows());
        due("another beside new", a.size(), 6);
    }

    private static void promise2Put() {
        SecretFlows f = new SecretFlows();
        int[] noOps = {-1, 8, MIN, MAX};
        for (int bad : noOps) {
            due("put op " + bad, f.put(bad, 0, 0), BAD_ARG);
        }
        int[] withRegister = {SET, MOVE, ADD, SUB, OUT, ZERO};
        for (int op : withRegister) {
            for (int bad : NO_NUMBERS) {
                due("put " + op + " r " + bad, f.put(op, bad, 0), BAD_ARG);
            }
        }
        for (int op = SET; op <= SUB; op++) {
            for (int bad : NO_NUMBERS) {
                due("put " + op + " x " + bad, f.put(op, 0, bad), BAD_ARG);
            }
        }
        int[] noTargets = {-1, 17, MIN, MAX};
        for (int bad : noTargets) {
            due("put jump x " + bad, f.put(JUMP, 0, bad), BAD_ARG);
            due("put zero x " + bad, f.put(ZERO, 0, bad), BAD_ARG);
        }
        isOneHalt("after refused puts", f);
        putAllOps();
        putUntilFull();
    }

    private static void putAllOps() {
        SecretFlows f = new SecretFlows();
        int place = 1;
        for (int op = SET; op <= SUB; op++) {
            due("put " + op + " 3 3", f.put(op, 3, 3), place++);
            due("put " + op + " 0 0", f.put(op, 0, 0), place++);
        }
        due("put out, x not looked at", f.put(OUT, 3, -1), place++);
        due("put out, x not looked at", f.put(OUT, 0, MAX), place++);
        due("put jump, r not looked at", f.put(JUMP, -1, 0), place++);
        due("put jump, r not looked at", f.put(JUMP, MAX, 16), place++);
        due("put zero", f.put(ZERO, 3, 16), place++);
        due("put halt, r and x not looked at", f.put(HALT, 9, -9), place++);
        due("put halt, r and x not looked at", f.put(HALT, MIN, MAX), place++);
        due("size after all", f.size(), 16);
        // What is not looked at does no harm when the instruction is reached either.
        SecretFlows g = program(op(OUT, 0, -1), op(JUMP, -1, 3), op(HALT, 9, -9), op(HALT, 99, 99));
        due("odd arguments: steps", g.steps(2, 0), 3);
        due("odd arguments: knows", g.knows(3, 1), 1);
        due("odd arguments: comeTo", g.comeTo(2), 0);
        outputIs("odd arguments", g, 2, 0, 2);
    }

    private static void putUntilFull() {
        SecretFlows f = new SecretFlows();
        for (int place = 1; place < 16; place++) {
            due("put into free place", f.put(JUMP, 0, place), place);
        }
        due("put into full", f.put(HALT, 0, 0), FULL);
        due("put into full, r not looked at", f.put(JUMP, 9, 16), FULL);
        due("bad op comes before full", f.put(8, 0, 0), BAD_ARG);
        due("bad r comes before full", f.put(OUT, 4, 0), BAD_ARG);
        due("bad x comes before full", f.put(JUMP, 0, 17), BAD_ARG);
        due("size when full", f.size(), 16);
        due("last place unchanged", f.meeting(15), NONE);
    }

    private static void promise3Set() {
        SecretFlows f = program(op(OUT, 0, 0), op(OUT, 1, 0), op(OUT, 0, 0));
        int[] noPlaces = {-1, 3, 16, MIN, MAX};
        for (int bad : noPlaces) {
            due("set at " + bad, f.set(bad, HALT, 0, 0), NONE);
            due("set at " + bad + " with a bad op", f.set(bad, 8, 0, 0), NONE);
            due("set at " + bad + " with a bad r", f.set(bad, OUT, 4, 0), NONE);
        }
        due("set op -1", f.set(0, -1, 0, 0), BAD_ARG);
        due("set op 8", f.set(0, 8, 0, 0), BAD_ARG);
        for (int bad : NO_NUMBERS) {
            due("set r " + bad, f.set(2, SUB, bad, 0), BAD_ARG);
            due("set out r " + bad, f.set(2, OUT, bad, 0), BAD_ARG);
            due("set zero r " + bad, f.set(2, ZERO, bad, 0), BAD_ARG);
            due("set x " + bad, f.set(2, SET, 0, bad), BAD_ARG);
        }
        due("set jump x -1", f.set(0, JUMP, 0, -1), BAD_ARG);
        due("set zero x 17", f.set(0, ZERO, 0, 17), BAD_ARG);
        due("size after refused sets", f.size(), 3);
        outputIs("after refused sets", f, 2, 3, 2, 3, 2);
        due("set first", f.set(0, OUT, 1, 99), 0);
        due("set last", f.set(2, OUT, 2, -99), 0);
        outputIs("after sets", f, 2, 3, 3, 3, 0);
        due("bad after sets", f.bad(), 0);
        due("set middle to halt", f.set(1, HALT, 77, 77), 0);
        outputIs("after halt", f, 2, 3, 3);
        due("comeTo behind halt", f.comeTo(2), 0);
        due("size after sets", f.size(), 3);
        setInFull();
    }

    private static void setInFull() {
        SecretFlows f = new SecretFlows();
        for (int place = 1; place < 16; place++) {
            due("fill", f.put(HALT, 0, 0), place);
        }
        due("set in full", f.set(15, JUMP, -5, 15), 0);
        due("set in full, meeting", f.meeting(15), NONE);
        due("set behind full", f.set(16, HALT, 0, 0), NONE);
    }

    private static void promise4Clear() {
        SecretFlows f = branchOnSecret();
        due("clear", f.clear(), 6);
        due("clear again", f.clear(), 1);
        isOneHalt("cleared", f);
        due("clear of two", f.clear(), 2);
        for (int place = 1; place < 16; place++) {
            due("fill after clear", f.put(OUT, 1, 0), place);
        }
        due("clear of full", f.clear(), 16);
        isOneHalt("cleared full", f);
    }

    private static void promise5Size() {
        SecretFlows f = new SecretFlows();
        due("size of new", f.size(), 1);
        for (int n = 2; n <= 16; n++) {
            f.put(SET, 0, 0);
            due("size after put", f.size(), n);
        }
        f.put(SET, 0, 0);
        f.put(9, 0, 0);
        f.set(0, OUT, 0, 0);
        due("size after refused puts and a set", f.size(), 16);
        f.clear();
        due("size after clear", f.size(), 1);
    }

    private static void promise6ComeTo() {
        SecretFlows f = program(op(JUMP, 0, 2), op(OUT, 0, 0), op(ZERO, 0, 5), op(HALT, 0, 0), op(OUT, 0, 0), op(JUMP, 0, 3));
        int[] want = {1, 0, 1, 1, 0, 1};
        for (int i = 0; i < want.length; i++) {
            due("comeTo(" + i + ")", f.comeTo(i), want[i]);
        }
        due("comeTo of the end", f.comeTo(6), BAD_ARG);
        due("comeTo(-1)", f.comeTo(-1), BAD_ARG);
        due("comeTo(MAX)", f.comeTo(MAX), BAD_ARG);
        due("comeTo(MIN)", f.comeTo(MIN), BAD_ARG);
        // Ways ask where instructions may go on, not where runs do: register 2 is always 0 here.
        SecretFlows g = program(op(ZERO, 2, 2), op(OUT, 0, 0), op(HALT, 0, 0));
        due("comeTo where no run comes", g.comeTo(1), 1);
        // Backwards, over all sixteen places.
        SecretFlows h = new SecretFlows();
        h.set(0, JUMP, 0, 15);
        for (int i = 1; i < 16; i++) {
            h.put(JUMP, 0, i - 1);
        }
        for (int i = 0; i < 16; i++) {
            due("comeTo backwards " + i, h.comeTo(i), 1);
        }
    }

    private static void promise7Meeting() {
        SecretFlows f = branchOnSecret();
        int[] want = {4, 2, 4, 4, 5, 6};
        for (int b = 0; b < want.length; b++) {
            due("meeting(" + b + ") of branches", f.meeting(b), want[b]);
        }
        due("meeting of the end", f.meeting(6), BAD_ARG);
        due("meeting(-1)", f.meeting(-1), BAD_ARG);
        due("meeting(MAX)", f.meeting(MAX), BAD_ARG);
        // The loop's head meets behind the loop, its body at the head, and that at a smaller number.
        SecretFlows loop = program(op(SET, 2, 1), op(ZERO, 0, 4), op(SUB, 0, 2), op(JUMP, 0, 1), op(OUT, 3, 0));
        due("meeting of a loop's head", loop.meeting(1), 4);
        due("meeting of a loop's body", loop.meeting(2), 3);
        due("meeting of a loop's last", loop.meeting(3), 1);
        // The first one on the ways has the greatest number here.
        SecretFlows back = program(op(JUMP, 0, 3), op(HALT, 0, 0), op(JUMP, 0, 1), op(ZERO, 0, 5), op(JUMP, 0, 6), op(OUT, 0, 0), op(JUMP, 0, 2));
        due("meeting ahead of smaller ones", back.meeting(3), 6);
        due("meeting behind", back.meeting(6), 2);
        due("meeting of both zero ways the same", program(op(ZERO, 0, 1), op(HALT, 0, 0)).meeting(0), 1);
        due("meeting with one way to the end", program(op(ZERO, 0, 3), op(JUMP, 0, 2), op(JUMP, 0, 1), op(OUT, 0, 0)).meeting(0), 3);
        due("meeting of no way to the end", program(op(JUMP, 0, 0)).meeting(0), NONE);
        due("meeting at the end only", program(op(ZERO, 0, 2), op(HALT, 0, 0), op(OUT, 0, 0)).meeting(0), 3);
        SecretFlows apart = program(op(HALT, 0, 0), op(ZERO, 0, 3), op(OUT, 0, 0), op(OUT, 0, 0));
        due("meeting of a place not come to", apart.meeting(1), 3);
    }

    private static void promise8Under() {
        SecretFlows f = branchOnSecret();
        underAre("branches", f, 0, 1, 2, 3);
        underAre("straight", f, 1);
        underAre("last", f, 5);
        int[] noPlaces = {-1, 6, 16, MIN, MAX};
        for (int bad : noPlaces) {
            due("under(" + bad + ", 0)", f.under(bad, 0), BAD_ARG);
            due("under(0, " + bad + ")", f.under(0, bad), BAD_ARG);
            due("under(" + bad + ", " + bad + ")", f.under(bad, bad), BAD_ARG);
        }
        SecretFlows loop = program(op(SET, 2, 1), op(ZERO, 0, 4), op(SUB, 0, 2), op(JUMP, 0, 1), op(OUT, 3, 0));
        underAre("a loop's head", loop, 1, 1, 2, 3);
        underAre("a loop's body", loop, 2);
        underAre("before a loop", loop, 0);
        SecretFlows endless = program(op(OUT, 0, 0), op(OUT, 0, 0), op(JUMP, 0, 1), op(OUT, 0, 0));
        underAre("no way to the end", endless, 0, 1, 2);
        underAre("no way to the end, in the circle", endless, 1, 1, 2);
        underAre("a place not come to", endless, 3);
        // The trap at 1 and 2 is under place 0 although no way to the end comes through it.
        SecretFlows trap = program(op(ZERO, 0, 3), op(JUMP, 0, 2), op(JUMP, 0, 1), op(OUT, 0, 0), op(OUT, 0, 0));
        underAre("a trap", trap, 0, 1, 2);
        SecretFlows apart = program(op(HALT, 0, 0), op(ZERO, 0, 3), op(OUT, 0, 0), op(OUT, 0, 0));
        underAre("under a place not come to", apart, 1, 2);
    }

    private static void promise9Knows() {
        SecretFlows f = program(op(MOVE, 2, 1), op(SET, 1, 0), op(ADD, 3, 2), op(SUB, 2, 2), op(MOVE, 3, 0), op(SUB, 0, 1), op(SUB, 0, 2), op(OUT, 3, 0));
        knowingAre("at the beginning", f, 0, 1);
        knowingAre("after move", f, 1, 1, 2);
        knowingAre("after set", f, 2, 2);
        knowingAre("after add", f, 3, 2, 3);
        knowingAre("after sub of itself", f, 4, 2, 3);
        knowingAre("after move of the unknowing", f, 5, 2);
        knowingAre("after sub of the unknowing", f, 6, 2);
        knowingAre("after sub of the knowing", f, 7, 0, 2);
        int[] noPlaces = {-1, 8, MIN, MAX};
        for (int bad : noPlaces) {
            due("knows(" + bad + ", 0)", f.knows(bad, 0), BAD_ARG);
            due("knows(" + bad + ", 4)", f.knows(bad, 4), BAD_ARG);
        }
        for (int bad : NO_NUMBERS) {
            due("knows(0, " + bad + ")", f.knows(0, bad), BAD_ARG);
        }
        knowingAre("add keeps what it had", program(op(ADD, 1, 0), op(HALT, 0, 0)), 1, 1);
        knowingAre("move onto itself", program(op(MOVE, 1, 1), op(HALT, 0, 0)), 1, 1);
        knowsByBranches();
        knowsInLoops();
    }

    private static void knowsByBranches() {
        SecretFlows f = branchOnSecret();
        knowingAre("branch, before its change", f, 1, 1);
        knowingAre("branch, after its change", f, 2, 1, 2);
        knowingAre("other branch, before", f, 3, 1);
        knowingAre("where they meet", f, 4, 1, 2);
        SecretFlows open = branchOnSecret();
        open.set(0, ZERO, 0, 3);
        knowingAre("branch on the public number", open, 4, 1);
        SecretFlows forgets = branchOnSecret();
        forgets.set(4, SET, 2, 0);
        knowingAre("set where they meet", forgets, 5, 1);
        SecretFlows apart = program(op(HALT, 0, 0), op(ZERO, 1, 3), op(SET, 2, 1), op(OUT, 2, 0));
        knowingAre("not come to", apart, 1);
        knowingAre("not come to, under", apart, 3);
        // Both of the ways come together with the union of what is known.
        SecretFlows either = program(op(ZERO, 0, 3), op(MOVE, 2, 1), op(JUMP, 0, 4), op(MOVE, 3, 1), op(HALT, 0, 0));
        knowingAre("one way", either, 2, 1, 2);
        knowingAre("together", either, 4, 1, 2, 3);
    }

    private static void knowsInLoops() {
        // What is learnt late in the loop comes round: 3, then 2, then 0, and 0 makes place 0 secret.
        SecretFlows f = program(op(ZERO, 0, 5), op(MOVE, 0, 2), op(MOVE, 2, 3), op(MOVE, 3, 1), op(JUMP, 0, 0), op(SET, 1, 0), op(OUT, 1, 0));
        knowingAre("a loop's head", f, 0, 0, 1, 2, 3);
        knowingAre("behind the loop", f, 6, 0, 2, 3);
        due("a loop's head becomes secret", f.secret(0), 1);
        // Under itself: the first change is done again under the zero that ends the loop.
        SecretFlows g = program(op(SET, 2, 1), op(SUB, 1, 2), op(ZERO, 1, 4), op(JUMP, 0, 0), op(HALT, 0, 0));
        knowingAre("a loop on the secret", g, 0, 1, 2);
        knowingAre("inside the loop", g, 1, 1, 2);
        // No way to the end: all that follows is under the secret place.
        SecretFlows endless = program(op(ZERO, 1, 1), op(SET, 0, 1), op(SET, 2, 1), op(JUMP, 0, 3));
        knowingAre("endless", endless, 3, 0, 1, 2);
    }

    private static void promise10Secret() {
        SecretFlows f = program(op(ZERO, 0, 1), op(ZERO, 1, 2), op(MOVE, 1, 0), op(ZERO, 1, 4), op(HALT, 0, 0), op(ZERO, 1, 4));
        int[] want = {0, 1, 0, 0, 0, 0};
        for (int i = 0; i < want.length; i++) {
            due("secret(" + i + ")", f.secret(i), want[i]);
        }
        due("secret of the end", f.secret(6), BAD_ARG);
        due("secret(-1)", f.secret(-1), BAD_ARG);
        due("secret(MIN)", f.secret(MIN), BAD_ARG);
        due("secret(MAX)", f.secret(MAX), BAD_ARG);
        due("set makes it secret", f.set(2, MOVE, 0, 1), 0);
        due("secret after set", f.secret(3), 1);
        due("out of the knowing is not secret", program(op(OUT, 1, 0)).secret(0), 0);
        // Register 2 knows only because it was changed under a secret place.
        SecretFlows g = program(op(ZERO, 1, 2), op(SET, 2, 1), op(ZERO, 2, 4), op(OUT, 0, 0), op(HALT, 0, 0));
        due("secret by a branch", g.secret(2), 1);
        due("bad by a branch", g.bad(), 3);
    }

    private static void promise11Bad() {
        due("bad, knowing", program(op(OUT, 0, 0), op(OUT, 1, 0), op(OUT, 1, 0)).bad(), 1);
        due("bad at place 0", program(op(OUT, 1, 0)).bad(), 0);
        due("bad, none", program(op(OUT, 0, 0), op(SET, 1, 0), op(OUT, 1, 0)).bad(), NONE);
        due("bad, where they meet", branchOnSecret().bad(), 4);
        SecretFlows f = branchOnSecret();
        f.set(4, OUT, 0, 0);
        due("not bad where they meet", f.bad(), NONE);
        f.set(3, OUT, 0, 0);
        due("bad under a secret place", f.bad(), 3);
        f.set(1, OUT, 3, 0);
        due("the least of two", f.bad(), 1);
        due("not come to", program(op(HALT, 0, 0), op(OUT, 1, 0)).bad(), NONE);
        due("only outs are bad", program(op(MOVE, 0, 1), op(ZERO, 0, 3), op(SET, 2, 0)).bad(), NONE);
        // A trap behind a secret zero: the out behind it is a meeting place, so not bad.
        SecretFlows trap = program(op(ZERO, 1, 2), op(JUMP, 0, 1), op(OUT, 0, 0));
        due("behind a trap", trap.bad(), NONE);
        due("endless under a secret place", program(op(ZERO, 1, 1), op(OUT, 0, 0), op(JUMP, 0, 1)).bad(), 1);
    }

    private static void promise12Safe() {
        due("safe, new", new SecretFlows().safe(), 1);
        due("safe at place 0", program(op(OUT, 1, 0)).safe(), 0);
        due("safe, public out", program(op(OUT, 0, 0)).safe(), 1);
        SecretFlows f = branchOnSecret();
        due("safe, branches", f.safe(), 0);
        f.set(4, SET, 2, 0);
        due("safe, set where they meet", f.safe(), 1);
        f.put(OUT, 1, 0);
        due("safe after put", f.safe(), 0);
        f.clear();
        due("safe after clear", f.safe(), 1);
        // By rule not safe, although no run shows anything.
        SecretFlows g = program(op(SUB, 1, 1), op(OUT, 1, 0));
        due("safe, nothing shown", g.safe(), 0);
        due("leaks, nothing shown", g.leaks(), 0);
    }

    private static void badNumbers(SecretFlows f) {
        for (int bad : NO_NUMBERS) {
            due("run(" + bad + ", 0)", f.run(bad, 0), BAD_ARG);
            due("run(0, " + bad + ")", f.run(0, bad), BAD_ARG);
            due("steps(" + bad + ", 0)", f.steps(bad, 0), BAD_ARG);
            due("steps(0, " + bad + ")", f.steps(0, bad), BAD_ARG);
            due("outs(" + bad + ", 0)", f.outs(bad, 0), BAD_ARG);
            due("outs(0, " + bad + ")", f.outs(0, bad), BAD_ARG);
            due("out(" + bad + ", 0, 0)", f.out(bad, 0, 0), BAD_ARG);
            due("out(0, " + bad + ", 0)", f.out(0, bad, 0), BAD_ARG);
            due("out(" + bad + ", 0, -1)", f.out(bad, 0, -1), BAD_ARG);
            due("shows(" + bad + ")", f.shows(bad), BAD_ARG);
        }
    }

    private static void promise13Run() {
        badNumbers(new SecretFlows());
        badNumbers(branchOnSecret());
        due("run, straight", branchOnSecret().run(0, 0), DONE);
        due("run, endless", program(op(JUMP, 0, 0)).run(0, 0), TIRED);
        due("run of 56", longRun(0).run(0, 1), DONE);
        due("run of 60", longRun(4).run(0, 1), DONE);
        due("run of 61", longRun(5).run(0, 1), TIRED);
        SecretFlows f = program(op(ZERO, 1, 0), op(ZERO, 0, 1));
        for (int p = 0; p < 4; p++) {
            for (int s = 0; s < 4; s++) {
                due("run(" + p + ", " + s + ")", f.run(p, s), p == 0 || s == 0 ? TIRED : DONE);
            }
        }
        due("run to a target beyond the end", program(op(JUMP, 0, 16)).run(0, 0), DONE);
    }

    private static void promise14Steps() {
        due("steps, jump to the end", program(op(JUMP, 0, 1)).steps(0, 0), 1);
        due("steps, one way", branchOnSecret().steps(0, 0), 4);
        due("steps, other way", branchOnSecret().steps(0, 1), 5);
        due("steps, endless", program(op(JUMP, 0, 0)).steps(0, 0), 60);
        due("steps of 56", longRun(0).steps(0, 1), 56);
        due("steps of 59", longRun(3).steps(0, 1), 59);
        due("steps of 60", longRun(4).steps(0, 1), 60);
        due("steps of 61", longRun(5).steps(0, 1), 60);
        due("halt is a step", program(op(SET, 0, 0), op(HALT, 0, 0), op(SET, 0, 0)).steps(0, 0), 2);
    }

    private static void promise15Outs() {
        due("outs, none", program(op(SET, 0, 0)).outs(0, 0), 0);
        due("outs, two", branchOnSecret().outs(1, 1), 2);
        due("outs, tired", program(op(OUT, 0, 0), op(JUMP, 0, 0)).outs(0, 0), 30);
        due("outs of 60 steps", longRun(4).outs(0, 1), 4);
        due("outs of 61 steps", longRun(5).outs(0, 1), 4);
        due("outs of 62 steps", longRun(6).outs(0, 1), 4);
        due("the most outs", mostOuts().outs(3, 0), 57);
        SecretFlows f = branchOnSecret();
        due("outs once", f.outs(1, 2), 2);
        due("outs again", f.outs(1, 2), 2);
    }

    private static SecretFlows mostOuts() {
        SecretFlows f = program(op(OUT, 0, 0));
        for (int i = 1; i < 15; i++) {
            f.put(OUT, i % 2, 0);
        }
        f.put(JUMP, 0, 0);
        return f;
    }

    private static void promise16Out() {
        for (int p = 0; p < 4; p++) {
            for (int s = 0; s < 4; s++) {
                outputIs("begin", program(op(OUT, 0, 0), op(OUT, 1, 0), op(OUT, 2, 0), op(OUT, 3, 0)), p, s, p, s, 0, 0);
                outputIs("add", program(op(ADD, 0, 1), op(OUT, 0, 0), op(OUT, 1, 0)), p, s, (p + s) % 4, s);
                outputIs("sub", program(op(SUB, 0, 1), op(OUT, 0, 0), op(OUT, 1, 0)), p, s, (p - s + 4) % 4, s);
                outputIs("move", program(op(MOVE, 3, 1), op(OUT, 3, 0), op(OUT, 1, 0)), p, s, s, s);
                outputIs("set", program(op(SET, 1, p), op(OUT, 1, 0)), p, s, p);
                outputIs("add to itself", program(op(ADD, 1, 1), op(OUT, 1, 0)), p, s, 2 * s % 4);
                outputIs("sub of itself", program(op(SUB, 1, 1), op(OUT, 1, 0)), p, s, 0);
                outputIs("zero", program(op(ZERO, 1, 2), op(OUT, 0, 0), op(OUT, 1, 0)), p, s, s == 0 ? new int[] {0} : new int[] {p, s});
            }
        }
        // Each run begins anew, whatever the run before it left in the registers.
        SecretFlows anew = program(op(OUT, 2, 0), op(OUT, 3, 0), op(SET, 2, 1), op(SET, 3, 2));
        outputIs("first run", anew, 1, 1, 0, 0);
        outputIs("second run", anew, 1, 1, 0, 0);
        SecretFlows f = branchOnSecret();
        int[] noOuts = {-1, 2, 59, 60, 61, MIN, MAX};
        for (int i : noOuts) {
            due("out(1, 1, " + i + ")", f.out(1, 1, i), NONE);
        }
        due("out 0", f.out(3, 1, 0), 1);
        due("out 1", f.out(3, 1, 1), 3);
        SecretFlows most = mostOuts();
        for (int i = 0; i < 57; i++) {
            due("most outs: " + i, most.out(3, 2, i), i % 15 % 2 == 0 ? 3 : 2);
        }
        due("most outs: behind", most.out(3, 2, 57), NONE);
        due("most outs: 60", most.out(3, 2, 60), NONE);
        due("most outs: far", most.out(3, 0, 100), NONE);
    }

    private static void promise17Shows() {
        due("shows, none", new SecretFlows().shows(0), 1);
        due("shows, all", program(op(OUT, 1, 0)).shows(2), 4);
        due("shows, two", program(op(ADD, 1, 1), op(OUT, 1, 0)).shows(2), 2);
        due("shows, without the tired", program(op(ZERO, 1, 0), op(OUT, 1, 0)).shows(0), 3);
        due("shows, tired with output", program(op(OUT, 1, 0), op(ZERO, 1, 1)).shows(0), 3);
        due("shows, as a tired one put out", program(op(OUT, 2, 0), op(ZERO, 1, 1)).shows(0), 1);
        due("shows, all tired", program(op(OUT, 1, 0), op(JUMP, 0, 0)).shows(0), 0);
        due("shows, by length alone", program(op(OUT, 2, 0), op(ZERO, 1, 3), op(OUT, 2, 0)).shows(0), 2);
        due("shows, by the last alone", program(op(OUT, 2, 0), op(OUT, 2, 0), op(OUT, 1, 0)).shows(0), 4);
        due("shows, by the first alone", program(op(OUT, 1, 0), op(OUT, 2, 0)).shows(0), 4);
        // Secret 2 puts out one zero, the others two: equal outputs need not be neighbours.
        SecretFlows f = program(op(SET, 3, 2), op(SUB, 3, 1), op(ZERO, 3, 4), op(OUT, 2, 0), op(OUT, 2, 0));
        due("shows, equal ones", f.shows(1), 2);
        // Public 0 ends the run before the out.
        SecretFlows g = program(op(ZERO, 0, 2), op(OUT, 1, 0));
        due("shows for 0", g.shows(0), 1);
        due("shows for 1", g.shows(1), 4);
        due("shows for 3", g.shows(3), 4);
        due("shows for 0 again", g.shows(0), 1);
        SecretFlows edge = longRun(4);
        due("shows at 60 steps", edge.shows(0), 4);
        due("shows beyond 60 steps", longRun(5).shows(0), 0);
    }

    private static void promise18Leaks() {
        due("leaks, none", new SecretFlows().leaks(), 0);
        due("leaks, the secret", program(op(OUT, 1, 0)).leaks(), 1);
        due("leaks, the public number", program(op(OUT, 0, 0)).leaks(), 0);
        due("leaks, by being tired", program(op(ZERO, 1, 0), op(OUT, 0, 0)).leaks(), 0);
        due("leaks, tired with output", program(op(OUT, 1, 0), op(JUMP, 0, 0)).leaks(), 0);
        for (int only = 0; only < 4; only++) {
            // Register 0 comes to 0 for one public number alone.
            SecretFlows f = program(op(SET, 2, only), op(SUB, 0, 2), op(ZERO, 0, 4), op(HALT, 0, 0), op(OUT, 1, 0));
            due("leaks, for public " + only, f.leaks(), 1);
            for (int p = 0; p < 4; p++) {
                due("shows, for public " + only, f.shows(p), p == only ? 4 : 1);
            }
        }
        // Only the run with secret 3 puts something out.
        SecretFlows g = program(op(SET, 2, 3), op(SUB, 1, 2), op(ZERO, 1, 4), op(HALT, 0, 0), op(OUT, 3, 0));
        due("leaks, one secret", g.leaks(), 1);
        due("shows, one secret", g.shows(0), 2);
    }

    private static void promise19Targets() {
        SecretFlows f = program(op(JUMP, 0, 3));
        due("n is 1: meeting", f.meeting(0), 1);
        due("n is 1: run", f.steps(0, 0), 1);
        f.put(OUT, 0, 0);
        f.put(OUT, 0, 0);
        due("n is 3: meeting", f.meeting(0), 3);
        due("n is 3: bad", f.bad(), NONE);
        f.put(OUT, 1, 0);
        due("n is 4: meeting", f.meeting(0), 3);
        due("n is 4: comeTo", f.comeTo(3), 1);
        due("n is 4: comeTo between", f.comeTo(1), 0);
        due("n is 4: bad", f.bad(), 3);
        due("n is 4: leaks", f.leaks(), 1);
        outputIs("n is 4", f, 0, 2, 2);
        targetsOfSet();
        targetSixteen();
    }

    private static void targetsOfSet() {
        SecretFlows f = program(op(HALT, 0, 0), op(OUT, 0, 0));
        due("set a target beyond the end", f.set(0, ZERO, 1, 3), 0);
        due("zero: meeting", f.meeting(0), 2);
        due("zero: bad", f.bad(), 1);
        f.put(OUT, 0, 0);
        due("zero: meeting, the end is the target", f.meeting(0), 3);
        underAre("zero, the end is the target", f, 0, 1, 2);
        f.put(OUT, 0, 0);
        due("zero: meeting, a place is the target", f.meeting(0), 3);
        underAre("zero, a place is the target", f, 0, 1, 2);
        due("zero: steps", f.steps(0, 0), 2);
        due("clear", f.clear(), 4);
        f.put(OUT, 1, 0);
        f.put(OUT, 1, 0);
        f.put(OUT, 1, 0);
        due("no target stays behind clear", f.comeTo(3), 0);
    }

    private static void targetSixteen() {
        SecretFlows f = program(op(JUMP, 0, 16));
        for (int i = 1; i < 16; i++) {
            due("target 16 is the end", f.meeting(0), i);
            f.put(OUT, 1, 0);
        }
        due("target 16 is the end when full", f.meeting(0), 16);
        due("target 16: safe", f.safe(), 1);
        due("target 16: a refused put changes nothing", f.put(OUT, 1, 0), FULL);
        due("target 16: run", f.run(0, 0), DONE);
        due("target 15: set", f.set(0, JUMP, 0, 15), 0);
        due("target 15: meeting", f.meeting(0), 15);
        due("target 15: bad", f.bad(), 15);
    }

    public static void main(String[] args) {
        promise1NewObject();
        promise2Put();
        promise3Set();
        promise4Clear();
        promise5Size();
        promise6ComeTo();
        promise7Meeting();
        promise8Under();
        promise9Knows();
        promise10Secret();
        promise11Bad();
        promise12Safe();
        promise13Run();
        promise14Steps();
        promise15Outs();
        promise16Out();
        promise17Shows();
        promise18Leaks();
        promise19Targets();
        endTest();
    }
}
