/**
 * Small programs that get a public and a secret number: where registers may know something of the
 * secret, by rules, and what runs with different secrets really show.
 *
 * <p>A set of places, or of registers, is an int with one bit for each member. What the rules say of
 * a program is worked out whenever the program changes, so that the questions only look it up.
 */
public final class SecretFlows {
    public static final int BAD_ARG = -1;
    public static final int FULL = -2;
    public static final int NONE = -4;
    public static final int DONE = 0;
    public static final int TIRED = 1;

    private static final int SET = 0;
    private static final int MOVE = 1;
    private static final int ADD = 2;
    private static final int SUB = 3;
    private static final int OUT = 4;
    private static final int JUMP = 5;
    private static final int ZERO = 6;
    private static final int HALT = 7;

    private static final int MOST_INSTRUCTIONS = 16;
    private static final int NUMBERS = 4;
    private static final int REGISTERS = 4;
    private static final int SECRET_REGISTER = 1;
    private static final int MOST_STEPS = 60;
    private static final int OUTPUT_CELLS = NUMBERS * MOST_STEPS;
    /** One more than there are pairs of a place and a register: each round but the last adds one. */
    private static final int KNOWING_ROUNDS = MOST_INSTRUCTIONS * REGISTERS + 1;

    private final int[] opAt = new int[MOST_INSTRUCTIONS];
    private final int[] registerAt = new int[MOST_INSTRUCTIONS];
    private final int[] argumentAt = new int[MOST_INSTRUCTIONS];
    private int length = 0;

    private final int[] nextAt = new int[MOST_INSTRUCTIONS];
    private final int[] meetingsOf = new int[MOST_INSTRUCTIONS];
    private final int[] underOf = new int[MOST_INSTRUCTIONS];
    private final int[] knowingAt = new int[MOST_INSTRUCTIONS];
    private int comeToPlaces = 0;
    private int secretPlaces = 0;
    private int underSecretPlaces = 0;

    private final int[] held = new int[REGISTERS];
    // One row for each secret, so that the runs with one public number can be compared.
    private final int[] putOut = new int[OUTPUT_CELLS];
    private final int[] putOutCount = new int[NUMBERS];
    private final int[] stepCount = new int[NUMBERS];
    private final int[] ending = new int[NUMBERS];

    public SecretFlows() {
        becomeHalt();
        applyRules();
    }

    public int put(int op, int r, int x) {
        if (!isInstruction(op, r, x)) {
            return BAD_ARG;
        }
        if (length >= MOST_INSTRUCTIONS) {
            return FULL;
        }
        int place = length;
        length = length + 1;
        write(place, op, r, x);
        applyRules();
        return place;
    }

    public int set(int i, int op, int r, int x) {
        if (!isPlace(i)) {
            return NONE;
        }
        if (!isInstruction(op, r, x)) {
            return BAD_ARG;
        }
        write(i, op, r, x);
        applyRules();
        return 0;
    }

    public int clear() {
        int before = length;
        becomeHalt();
        applyRules();
        return before;
    }

    public int size() {
        return length;
    }

    public int comeTo(int i) {
        if (!isPlace(i)) {
            return BAD_ARG;
        }
        return has(comeToPlaces, i) ? 1 : 0;
    }

    public int meeting(int b) {
        if (!isPlace(b)) {
            return BAD_ARG;
        }
        int meetings = meetingsOf[b];
        int before = reach(1 << b, meetings);
        // All ways come to the same meeting place first, so this set has one member at most.
        int first = meetings & nextOfAll(before);
        for (int q = 0; q <= length; q++) {
            if (has(first, q)) {
                return q;
            }
        }
        return NONE;
    }

    public int under(int q, int b) {
        if (!isPlace(q) || !isPlace(b)) {
            return BAD_ARG;
        }
        return has(underOf[b], q) ? 1 : 0;
    }

    public int knows(int i, int r) {
        if (!isPlace(i) || !isRegister(r)) {
            return BAD_ARG;
        }
        return has(knowingAt[i], r) ? 1 : 0;
    }

    public int secret(int i) {
        if (!isPlace(i)) {
            return BAD_ARG;
        }
        return has(secretPlaces, i) ? 1 : 0;
    }

    public int bad() {
        return leastBadPlace();
    }

    public int safe() {
        return leastBadPlace() == NONE ? 1 : 0;
    }

    public int run(int p, int s) {
        if (!isNumber(p) || !isNumber(s)) {
            return BAD_ARG;
        }
        doRun(p, s);
        return ending[s];
    }

    public int steps(int p, int s) {
        if (!isNumber(p) || !isNumber(s)) {
            return BAD_ARG;
        }
        doRun(p, s);
        return stepCount[s];
    }

    public int outs(int p, int s) {
        if (!isNumber(p) || !isNumber(s)) {
            return BAD_ARG;
        }
        doRun(p, s);
        return putOutCount[s];
    }

    public int out(int p, int s, int i) {
        if (!isNumber(p) || !isNumber(s)) {
            return BAD_ARG;
        }
        doRun(p, s);
        if (i < 0 || i >= putOutCount[s]) {
            return NONE;
        }
        return putOut[s * MOST_STEPS + i];
    }

    public int shows(int p) {
        if (!isNumber(p)) {
            return BAD_ARG;
        }
        return countOutputs(p);
    }

    public int leaks() {
        for (int p = 0; p < NUMBERS; p++) {
            if (countOutputs(p) > 1) {
                return 1;
            }
        }
        return 0;
    }

    // Arguments

    private static boolean isNumber(int v) {
        return v >= 0 && v < NUMBERS;
    }

    private static boolean isRegister(int r) {
        return r >= 0 && r < REGISTERS;
    }

    private boolean isPlace(int i) {
        return i >= 0 && i < length;
    }

    private static boolean isInstruction(int op, int r, int x) {
        if (op < SET || op > HALT) {
            return false;
        }
        boolean usesRegister = op != JUMP && op != HALT;
        if (usesRegister && !isRegister(r)) {
            return false;
        }
        if (changesRegister(op)) {
            // The bound is the same for set's number and for the other ops' second register.
            return isNumber(x);
        }
        if (op == JUMP || op == ZERO) {
            return x >= 0 && x <= MOST_INSTRUCTIONS;
        }
        return true;
    }

    private static boolean changesRegister(int op) {
        return op == SET || op == MOVE || op == ADD || op == SUB;
    }

    private static boolean has(int members, int m) {
        return (members >> m & 1) == 1;
    }

    // The program

    private void becomeHalt() {
        length = 1;
        write(0, HALT, 0, 0);
    }

    private void write(int i, int op, int r, int x) {
        opAt[i] = op;
        registerAt[i] = r;
        argumentAt[i] = x;
    }

    /** The target is kept as it was given: it may be the end now and a place before it later. */
    private int target(int i) {
        int given = argumentAt[i];
        return given < length ? given : length;
    }

    /** All places are looked at anew: a longer program also changes where old targets lead. */
    private void applyRules() {
        for (int i = 0; i < length; i++) {
            nextAt[i] = findNext(i);
        }
        comeToPlaces = reach(1, 0);
        for (int b = 0; b < length; b++) {
            meetingsOf[b] = findMeetings(b);
            // Starting behind b, so that b is under itself only if a way comes back to it.
            underOf[b] = reach(nextAt[b], meetingsOf[b]);
        }
        findKnowing();
    }

    // Ways

    private int findNext(int i) {
        int following = 1 << (i + 1);
        switch (opAt[i]) {
            case JUMP:
                return 1 << target(i);
            case ZERO:
                return following | 1 << target(i);
            case HALT:
                return 1 << length;
            default:
                return following;
        }
    }

    private int nextOfAll(int places) {
        int next = 0;
        for (int i = 0; i < length; i++) {
            if (has(places, i)) {
                next = next | nextAt[i];
            }
        }
        return next;
    }

    /** The places on ways that begin at one of the starts and have no barred place in them. */
    private int reach(int starts, int barred) {
        int found = starts & ~barred;
        // A way without a place twice has at most as many steps as there are instructions.
        for (int step = 0; step < length; step++) {
            int next = nextOfAll(found);
            found = found | next & ~barred;
        }
        return found;
    }

    private int findMeetings(int b) {
        int reached = reach(1 << b, 0);
        if (!has(reached, length)) {
            return 0;
        }
        int meetings = 0;
        for (int q = 0; q <= length; q++) {
            reached = reach(1 << b, 1 << q);
            if (q != b && !has(reached, length)) {
                meetings = meetings | 1 << q;
            }
        }
        return meetings;
    }

    // Knowing

    private void findKnowing() {
        for (int i = 0; i < length; i++) {
            knowingAt[i] = 0;
        }
        knowingAt[0] = 1 << SECRET_REGISTER;
        secretPlaces = 0;
        underSecretPlaces = 0;
        for (int round = 0; round < KNOWING_ROUNDS; round++) {
            findSecretPlaces();
            for (int i = 0; i < length; i++) {
                if (has(comeToPlaces, i)) {
                    passOn(i);
                }
            }
        }
    }

    private void findSecretPlaces() {
        for (int b = 0; b < length; b++) {
            if (opAt[b] == ZERO && has(knowingAt[b], registerAt[b])) {
                secretPlaces = secretPlaces | 1 << b;
                underSecretPlaces = underSecretPlaces | underOf[b];
            }
        }
    }

    private void passOn(int i) {
        int after = knowingAfter(i);
        for (int j = 0; j < length; j++) {
            if (has(nextAt[i], j)) {
                knowingAt[j] = knowingAt[j] | after;
            }
        }
    }

    private int knowingAfter(int i) {
        int before = knowingAt[i];
        int op = opAt[i];
        if (!changesRegister(op)) {
            return before;
        }
        int sources = 0;
        if (op != SET) {
            sources = 1 << argumentAt[i];
        }
        if (op == ADD || op == SUB) {
            sources = sources | 1 << registerAt[i];
        }
        int changed = 1 << registerAt[i];
        if ((before & sources) != 0 || has(underSecretPlaces, i)) {
            return before | changed;
        }
        return before & ~changed;
    }

    private int leastBadPlace() {
        for (int i = 0; i < length; i++) {
            if (opAt[i] == OUT && has(comeToPlaces, i)) {
                if (has(knowingAt[i], registerAt[i]) || has(underSecretPlaces, i)) {
                    return i;
                }
            }
        }
        return NONE;
    }

    // Runs

    private void doRun(int p, int s) {
        held[0] = p;
        held[SECRET_REGISTER] = s;
        held[2] = 0;
        held[3] = 0;
        putOutCount[s] = 0;
        int place = 0;
        int done = 0;
        while (done < MOST_STEPS && place < length) {
            place = doInstruction(place, s);
            done++;
        }
        stepCount[s] = done;
        ending[s] = place < length ? TIRED : DONE;
    }

    /** Answers the place where the run goes on. */
    private int doInstruction(int i, int s) {
        int r = registerAt[i];
        int x = argumentAt[i];
        switch (opAt[i]) {
            case SET:
                held[r] = x;
                return i + 1;
            case MOVE:
                held[r] = held[x];
                return i + 1;
            case ADD:
                held[r] = (held[r] + held[x]) % NUMBERS;
                return i + 1;
            case SUB:
                held[r] = (held[r] + NUMBERS - held[x]) % NUMBERS;
                return i + 1;
            case OUT:
                putOut[s * MOST_STEPS + putOutCount[s]] = held[r];
                putOutCount[s]++;
                return i + 1;
            case JUMP:
                return target(i);
            case ZERO:
                return held[r] == 0 ? target(i) : i + 1;
            default:
                return length;
        }
    }

    private int countOutputs(int p) {
        int different = 0;
        for (int s = 0; s < NUMBERS; s++) {
            doRun(p, s);
            if (ending[s] == DONE && !wasShownBefore(s)) {
                different++;
            }
        }
        return different;
    }

    private boolean wasShownBefore(int s) {
        for (int earlier = 0; earlier < s; earlier++) {
            if (ending[earlier] == DONE && haveSameOutput(earlier, s)) {
                return true;
            }
        }
        return false;
    }

    private boolean haveSameOutput(int a, int b) {
        if (putOutCount[a] != putOutCount[b]) {
            return false;
        }
        for (int k = 0; k < putOutCount[a]; k++) {
            if (putOut[a * MOST_STEPS + k] != putOut[b * MOST_STEPS + k]) {
                return false;
            }
        }
        return true;
    }
}
