import java.util.ArrayList;
import java.util.HashSet;
import java.util.List;
import java.util.Set;

// Holds the class against a model that follows the document's words, with no regard to cost.
public final class ModelTest {
    private static final int MOST_CALLS = 512;
    private static final int HISTORIES = 300;
    private static final int PROGRAMS = 600;

    private static int wrong = 0;
    private static long seed = 20261115L;

    /** A fixed row of numbers, so that each run of this test makes the same calls. */
    private static int pick(int bound) {
        seed = seed * 6364136223846793005L + 1442695040888963407L;
        return (int) ((seed >>> 33) % bound);
    }

    private static final class Model {
        private final List<int[]> program = new ArrayList<>();

        Model() {
            program.add(new int[] {7, 0, 0});
        }

        int n() {
            return program.size();
        }

        boolean isPlace(int i) {
            return 0 <= i && i < n();
        }

        boolean isNumber(int v) {
            return 0 <= v && v <= 3;
        }

        boolean refused(int op, int r, int x) {
            if (op < 0 || op > 7) {
                return true;
            }
            if ((op <= 4 || op == 6) && !isNumber(r)) {
                return true;
            }
            return op <= 3 && !isNumber(x) || (op == 5 || op == 6) && (x < 0 || x > 16);
        }

        int put(int op, int r, int x) {
            if (refused(op, r, x)) {
                return -1;
            }
            if (n() == 16) {
                return -2;
            }
            program.add(new int[] {op, r, x});
            return n() - 1;
        }

        int set(int i, int op, int r, int x) {
            if (!isPlace(i)) {
                return -4;
            }
            if (refused(op, r, x)) {
                return -1;
            }
            program.set(i, new int[] {op, r, x});
            return 0;
        }

        int clear() {
            int before = n();
            program.clear();
            program.add(new int[] {7, 0, 0});
            return before;
        }

        List<Integer> next(int i) {
            int[] instruction = program.get(i);
            int op = instruction[0];
            if (op == 7) {
                return List.of(n());
            }
            int target = Math.min(instruction[2], n());
            if (op == 5) {
                return List.of(target);
            }
            return op == 6 ? List.of(i + 1, target) : List.of(i + 1);
        }

        /** Every way to the end without a place twice; longer ways have these ones' places and more. */
        void waysToEnd(List<Integer> way, List<List<Integer>> ways) {
            int last = way.get(way.size() - 1);
            if (last == n()) {
                ways.add(new ArrayList<>(way));
                return;
            }
            for (int j : next(last)) {
                if (!way.contains(j)) {
                    way.add(j);
                    waysToEnd(way, ways);
                    way.remove(way.size() - 1);
                }
            }
        }

        List<List<Integer>> waysFrom(int b) {
            List<List<Integer>> ways = new ArrayList<>();
            List<Integer> way = new ArrayList<>();
            way.add(b);
            waysToEnd(way, ways);
            return ways;
        }

        Set<Integer> meetings(int b) {
            Set<Integer> meetings = new HashSet<>();
            List<List<Integer>> ways = waysFrom(b);
            if (!ways.isEmpty()) {
                meetings.addAll(ways.get(0));
                for (List<Integer> way : ways) {
                    meetings.retainAll(way);
                }
                meetings.remove(b);
            }
            return meetings;
        }

        int meeting(int b) {
            Set<Integer> meetings = meetings(b);
            int first = -4;
            for (List<Integer> way : waysFrom(b)) {
                int k = 0;
                while (!meetings.contains(way.get(k))) {
                    k++;
                }
                if (first != -4 && first != way.get(k)) {
                    throw new IllegalStateException("two first meeting places");
                }
                first = way.get(k);
            }
            return first;
        }

        void walk(int from, Set<Integer> barred, Set<Integer> found) {
            for (int j : next(from)) {
                if (!barred.contains(j) && found.add(j) && j != n()) {
                    walk(j, barred, found);
                }
            }
        }

        Set<Integer> under(int b) {
            Set<Integer> found = new HashSet<>();
            walk(b, meetings(b), found);
            found.remove(n());
            return found;
        }

        Set<Integer> comeTo() {
            Set<Integer> found = new HashSet<>();
            walk(0, Set.of(), found);
            found.add(0);
            return found;
        }

        boolean isSecret(boolean[][] knows, int b) {
            int[] instruction = program.get(b);
            return comeTo().contains(b) && instruction[0] == 6 && knows[b][instruction[1]];
        }

        boolean isUnderSecret(boolean[][] knows, List<Set<Integer>> unders, int i) {
            for (int b = 0; b < n(); b++) {
                if (unders.get(b).contains(i) && isSecret(knows, b)) {
                    return true;
                }
            }
            return false;
        }

        List<Set<Integer>> allUnder() {
            List<Set<Integer>> unders = new ArrayList<>();
            for (int b = 0; b < n(); b++) {
                unders.add(under(b));
            }
            return unders;
        }

        boolean learns(boolean[][] knows, List<Set<Integer>> unders, int i, int r) {
            int[] instruction = program.get(i);
            int op = instruction[0];
            if (op > 3 || instruction[1] != r) {
                return knows[i][r];
            }
            if (op == 1 && knows[i][instruction[2]]) {
                return true;
            }
            if ((op == 2 || op == 3) && (knows[i][r] || knows[i][instruction[2]])) {
                return true;
            }
            return isUnderSecret(knows, unders, i);
        }

        boolean[][] knowing(List<Set<Integer>> unders) {
            boolean[][] knows = new boolean[n() + 1][4];
            knows[0][1] = true;
            boolean grows = true;
            while (grows) {
                grows = false;
                for (int i : comeTo()) {
                    for (int r = 0; i != n() && r < 4; r++) {
                        for (int j : next(i)) {
                            if (!knows[j][r] && learns(knows, unders, i, r)) {
                                knows[j][r] = true;
                                grows = true;
                            }
                        }
                    }
                }
            }
            return knows;
        }

        int bad(boolean[][] knows, List<Set<Integer>> unders) {
            for (int i = 0; i < n(); i++) {
                int[] instruction = program.get(i);
                if (instruction[0] == 4 && comeTo().contains(i)
                        && (knows[i][instruction[1]] || isUnderSecret(knows, unders, i))) {
                    return i;
                }
            }
            return -4;
        }

        /** The output, and behind it how the run ends and how many instructions it does. */
        List<Integer> run(int p, int s) {
            List<Integer> output = new ArrayList<>();
            int[] held = {p, s, 0, 0};
            int place = 0;
            int steps = 0;
            while (place != n() && steps < 60) {
                int[] instruction = program.get(place);
                int op = instruction[0];
                int r = instruction[1];
                int x = instruction[2];
                int go = next(place).get(0);
                if (op == 0) {
                    held[r] = x;
                } else if (op == 1) {
                    held[r] = held[x];
                } else if (op == 2) {
                    held[r] = Math.floorMod(held[r] + held[x], 4);
                } else if (op == 3) {
                    held[r] = Math.floorMod(held[r] - held[x], 4);
                } else if (op == 4) {
                    output.add(held[r]);
                } else if (op == 6 && held[r] == 0) {
                    go = next(place).get(1);
                }
                place = go;
                steps++;
            }
            output.add(place == n() ? 0 : 1);
            output.add(steps);
            return output;
        }

        int shows(int p) {
            Set<List<Integer>> outputs = new HashSet<>();
            for (int s = 0; s < 4; s++) {
                List<Integer> run = run(p, s);
                if (run.get(run.size() - 2) == 0) {
                    outputs.add(run.subList(0, run.size() - 2));
                }
            }
            return outputs.size();
        }

        int leaks() {
            for (int p = 0; p < 4; p++) {
                if (shows(p) > 1) {
                    return 1;
                }
            }
            return 0;
        }

        String text() {
            StringBuilder text = new StringBuilder();
            for (int[] each : program) {
                text.append(" (").append(each[0]).append(' ').append(each[1]).append(' ').append(each[2]).append(')');
            }
            return text.toString();
        }
    }

    private static void due(Model model, String call, int got, int want) {
        if (got != want) {
            wrong++;
            System.out.println(call + " answered " + got + ", due is " + want + ", after" + model.text());
        }
    }

    private static int flag(boolean holds) {
        return holds ? 1 : 0;
    }

    /** Mostly a good argument, from 0 to most, at times one that is just or far outside. */
    private static int argument(int most) {
        int[] outside = {-1, most + 1, Integer.MIN_VALUE, Integer.MAX_VALUE, -1 - pick(40), most + pick(40)};
        return pick(40) == 0 ? outside[pick(outside.length)] : pick(most + 1);
    }

    private static int pickOp() {
        // More of the ops that make ways and flows than of halt.
        int[] ops = {0, 1, 2, 3, 4, 4, 5, 6, 6, 6, 7, 0, 1, 2, 3, 4, 5, 6, 1, 2};
        return pick(60) == 0 ? argument(7) : ops[pick(ops.length)];
    }

    private static int pickSecond(int op, int n) {
        if (op != 5 && op != 6) {
            return argument(3);
        }
        return pick(4) == 0 ? argument(16) : argument(Math.min(n + 1, 16));
    }

    private static void change(SecretFlows flows, Model model) {
        int op = pickOp();
        int r = argument(3);
        int x = pickSecond(op, model.n());
        int kind = pick(200);
        if (kind == 0) {
            due(model, "clear()", flows.clear(), model.clear());
        } else if (kind < 120) {
            due(model, "put(" + op + ", " + r + ", " + x + ")", flows.put(op, r, x), model.put(op, r, x));
        } else {
            int i = argument(model.n() - 1);
            due(model, "set(" + i + ", " + op + ", " + r + ", " + x + ")", flows.set(i, op, r, x), model.set(i, op, r, x));
        }
    }

    private static void askOne(SecretFlows flows, Model model) {
        int n = model.n();
        int i = argument(n - 1);
        int b = argument(n - 1);
        int r = argument(3);
        boolean isPlace = model.isPlace(i);
        List<Set<Integer>> unders = model.allUnder();
        boolean[][] knows = model.knowing(unders);
        int k = pick(8);
        if (k == 0) {
            due(model, "comeTo(" + i + ")", flows.comeTo(i), isPlace ? flag(model.comeTo().contains(i)) : -1);
        } else if (k == 1) {
            due(model, "meeting(" + i + ")", flows.meeting(i), isPlace ? model.meeting(i) : -1);
        } else if (k == 2) {
            int want = isPlace && model.isPlace(b) ? flag(unders.get(b).contains(i)) : -1;
            due(model, "under(" + i + ", " + b + ")", flows.under(i, b), want);
        } else if (k == 3) {
            int want = isPlace && model.isNumber(r) ? flag(knows[i][r]) : -1;
            due(model, "knows(" + i + ", " + r + ")", flows.knows(i, r), want);
        } else if (k == 4) {
            due(model, "secret(" + i + ")", flows.secret(i), isPlace ? flag(model.isSecret(knows, i)) : -1);
        } else if (k == 5) {
            due(model, "bad()", flows.bad(), model.bad(knows, unders));
        } else if (k == 6) {
            due(model, "safe()", flows.safe(), flag(model.bad(knows, unders) == -4));
        } else {
            due(model, "size()", flows.size(), n);
        }
    }

    private static void askOneRun(SecretFlows flows, Model model) {
        int p = argument(3);
        int s = argument(3);
        boolean isRun = model.isNumber(p) && model.isNumber(s);
        List<Integer> run = isRun ? model.run(p, s) : List.of();
        int outs = run.size() - 2;
        int k = pick(6);
        if (k == 0) {
            due(model, "run(" + p + ", " + s + ")", flows.run(p, s), isRun ? run.get(outs) : -1);
        } else if (k == 1) {
            due(model, "steps(" + p + ", " + s + ")", flows.steps(p, s), isRun ? run.get(outs + 1) : -1);
        } else if (k == 2) {
            due(model, "outs(" + p + ", " + s + ")", flows.outs(p, s), isRun ? outs : -1);
        } else if (k == 3) {
            int i = argument(Math.max(outs, 0));
            int want = i >= 0 && i < outs ? run.get(i) : -4;
            due(model, "out(" + p + ", " + s + ", " + i + ")", flows.out(p, s, i), isRun ? want : -1);
        } else if (k == 4) {
            due(model, "shows(" + p + ")", flows.shows(p), model.isNumber(p) ? model.shows(p) : -1);
        } else {
            due(model, "leaks()", flows.leaks(), model.leaks());
        }
    }

    private static void followHistory() {
        SecretFlows flows = new SecretFlows();
        Model model = new Model();
        int changes = 5 + pick(60);
        for (int call = 0; call < MOST_CALLS; call++) {
            int kind = pick(100);
            if (kind < changes) {
                change(flows, model);
            } else if (kind % 2 == 0) {
                askOne(flows, model);
            } else {
                askOneRun(flows, model);
            }
        }
    }

    private static SecretFlows copyOf(Model model) {
        SecretFlows flows = new SecretFlows();
        for (int i = 0; i < model.n(); i++) {
            int[] each = model.program.get(i);
            if (i == 0) {
                flows.set(0, each[0], each[1], each[2]);
            } else {
                flows.put(each[0], each[1], each[2]);
            }
        }
        return flows;
    }

    private static void askAllByRules(Model model) {
        SecretFlows flows = copyOf(model);
        List<Set<Integer>> unders = model.allUnder();
        boolean[][] knows = model.knowing(unders);
        Set<Integer> comeTo = model.comeTo();
        for (int i = 0; i < model.n(); i++) {
            due(model, "comeTo(" + i + ")", flows.comeTo(i), flag(comeTo.contains(i)));
            due(model, "meeting(" + i + ")", flows.meeting(i), model.meeting(i));
            due(model, "secret(" + i + ")", flows.secret(i), flag(model.isSecret(knows, i)));
            for (int r = 0; r < 4; r++) {
                due(model, "knows(" + i + ", " + r + ")", flows.knows(i, r), flag(knows[i][r]));
            }
            for (int q = 0; q < model.n(); q++) {
                due(model, "under(" + q + ", " + i + ")", flows.under(q, i), flag(unders.get(i).contains(q)));
            }
        }
        due(model, "bad()", flows.bad(), model.bad(knows, unders));
        due(model, "safe()", flows.safe(), flag(model.bad(knows, unders) == -4));
        due(model, "leaks()", flows.leaks(), model.leaks());
    }

    private static void askAllRuns(Model model) {
        for (int p = 0; p < 4; p++) {
            SecretFlows flows = copyOf(model);
            due(model, "shows(" + p + ")", flows.shows(p), model.shows(p));
            for (int s = 0; s < 4; s++) {
                String with = "(" + p + ", " + s + ")";
                List<Integer> run = model.run(p, s);
                int outs = run.size() - 2;
                due(model, "run" + with, flows.run(p, s), run.get(outs));
                due(model, "steps" + with, flows.steps(p, s), run.get(outs + 1));
                due(model, "outs" + with, flows.outs(p, s), outs);
                for (int i = 0; i < outs; i++) {
                    due(model, "out" + with + " at " + i, flows.out(p, s, i), run.get(i));
                }
                due(model, "out" + with + " behind", flows.out(p, s, outs), -4);
            }
        }
    }

    private static Model someProgram() {
        Model model = new Model();
        int n = 1 + pick(16);
        while (model.n() < n) {
            int op = pickOp();
            model.put(op, argument(3), op == 5 || op == 6 ? argument(16) : argument(3));
        }
        int op = pickOp();
        model.set(0, op, argument(3), pickSecond(op, n));
        return model;
    }

    public static void main(String[] args) {
        for (int i = 0; i < HISTORIES; i++) {
            followHistory();
        }
        for (int i = 0; i < PROGRAMS; i++) {
            Model model = someProgram();
            askAllByRules(model);
            askAllRuns(model);
        }
        System.out.println(wrong == 0 ? "all answers are as due" : wrong + " answers are not as due");
        if (wrong != 0) {
            System.exit(1);
        }
    }
}
