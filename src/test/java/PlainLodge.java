import java.util.ArrayDeque;
import java.util.ArrayList;
import java.util.Deque;
import java.util.HashMap;
import java.util.HashSet;
import java.util.List;
import java.util.Map;
import java.util.Set;

/**
 * The lodge once more, for comparison: written from the document's words by lists, sets and copies,
 * so that it shares no way of reckoning with LodgeProofs.
 */
final class PlainLodge {
    private static final long NONE = 9999;

    private static final class Step {
        int kind;
        int what;
        int open;
        boolean withdrawn;
    }

    private final Set<Integer> taken = new HashSet<>(List.of(0, 1, 2, 3, 4));
    private final List<List<List<Step>>> lodge = new ArrayList<>();

    boolean take(int axiom, boolean is) {
        index(axiom >= 0 && axiom <= 4);
        boolean was = taken.contains(axiom);
        if (is) {
            taken.add(axiom);
        } else {
            taken.remove(axiom);
        }
        return was;
    }

    int lemma() {
        state(lodge.size() < 12);
        lodge.add(new ArrayList<>());
        return lodge.size() - 1;
    }

    int proof(int lemma) {
        List<List<Step>> proofs = proofsOf(lemma);
        state(proofs.size() < 3);
        proofs.add(new ArrayList<>());
        return proofs.size() - 1;
    }

    int cite(int lemma, int proof, int kind, int what) {
        List<Step> steps = stepsOf(lemma, proof);
        index(kind >= 0 && kind <= 2);
        index(kind != 0 || what >= 0 && what <= 4);
        index(kind != 1 || what >= 0 && what < lodge.size());
        argument(kind != 2 || what >= 1 && what <= 9);
        state(steps.size() < 5);
        Step step = new Step();
        step.kind = kind;
        step.what = what;
        step.open = kind == 2 ? what : 0;
        steps.add(step);
        return steps.size();
    }

    int patch(int lemma, int proof, int place, int by) {
        Step step = stepOf(lemma, proof, place);
        argument(by >= 1 && by <= 9);
        state(step.kind == 2);
        state(step.open > 0);
        step.open = step.open > by ? step.open - by : 0;
        return step.open;
    }

    boolean withdraw(int lemma, int proof, int place) {
        Step step = stepOf(lemma, proof, place);
        step.withdrawn = !step.withdrawn;
        return step.withdrawn;
    }

    int strike(int lemma, int proof) {
        stepsOf(lemma, proof);
        lodge.get(lemma).remove(proof);
        return lodge.get(lemma).size();
    }

    int told(int lemma, int what) {
        List<List<Step>> proofs = proofsOf(lemma);
        index(what >= 0 && what <= 6);
        switch (what) {
            case 0: return proofs.size();
            case 1: return proofs.stream().mapToInt(List::size).sum();
            case 2: return stages(-1).getOrDefault(lemma, 0);
            case 3: return orNone(costs(false).get(lemma));
            case 4: return orNone(costs(true).get(lemma));
            case 5: return proofs.stream().flatMap(List::stream).mapToInt(s -> s.open).sum();
            default: return circle(lemma);
        }
    }

    int step(int lemma, int proof, int place, int what) {
        Step step = stepOf(lemma, proof, place);
        index(what >= 0 && what <= 3);
        return new int[] {step.kind, step.what, step.open, step.withdrawn ? 1 : 0}[what];
    }

    int about(int lemma, int proof, int what) {
        List<Step> steps = stepsOf(lemma, proof);
        index(what >= 0 && what <= 3);
        switch (what) {
            case 0: return steps.size();
            case 1: return holds(steps, stages(-1).keySet()) ? 1 : 0;
            case 2: return orNone(cost(steps, costs(false), false));
            default: return orNone(cost(steps, costs(true), true));
        }
    }

    int count(int what) {
        index(what >= 0 && what <= 6);
        switch (what) {
            case 0: return lodge.size();
            case 1: return stages(-1).size();
            case 2: return taken.size();
            case 3: return sumTold(0);
            case 4: return sumTold(1);
            case 5: return sumTold(5);
            default:
                int in = 0;
                for (int lemma = 0; lemma < lodge.size(); lemma++) {
                    in += circle(lemma) == 0 ? 0 : 1;
                }
                return in;
        }
    }

    int best(int lemma) {
        int best = -1;
        for (int proof = proofsOf(lemma).size() - 1; proof >= 0; proof--) {
            int length = about(lemma, proof, 2);
            if (length >= 0 && (best < 0 || length <= about(lemma, best, 2))) {
                best = proof;
            }
        }
        return best;
    }

    int without(int lemma) {
        proofsOf(lemma);
        return stages(lemma).size();
    }

    boolean needs(int lemma, int axiom) {
        proofsOf(lemma);
        index(axiom >= 0 && axiom <= 4);
        boolean proved = stages(-1).containsKey(lemma);
        boolean was = taken.remove(axiom);
        boolean would = stages(-1).containsKey(lemma);
        if (was) {
            taken.add(axiom);
        }
        return proved && !would;
    }

    int advise() {
        int most = stages(-1).size();
        int advice = -1;
        for (int lemma = 0; lemma < lodge.size(); lemma++) {
            for (int proof = 0; proof < lodge.get(lemma).size(); proof++) {
                for (int place = 0; place < lodge.get(lemma).get(proof).size(); place++) {
                    Step step = lodge.get(lemma).get(proof).get(place);
                    int was = step.open;
                    step.open = 0;
                    int would = stages(-1).size();
                    step.open = was;
                    if (would > most) {
                        most = would;
                        advice = 100 * lemma + 10 * proof + place;
                    }
                }
            }
        }
        return advice;
    }

    double mean() {
        return lodge.isEmpty() ? 0 : (double) count(4) / count(0);
    }

    long digest() {
        List<Integer> numbers = new ArrayList<>();
        for (int what = 0; what <= 6; what++) {
            numbers.add(count(what));
        }
        for (int axiom = 0; axiom <= 4; axiom++) {
            numbers.add(taken.contains(axiom) ? 1 : 0);
        }
        for (int lemma = 0; lemma < lodge.size(); lemma++) {
            for (int what = 0; what <= 6; what++) {
                numbers.add(told(lemma, what));
            }
            for (int proof = 0; proof < lodge.get(lemma).size(); proof++) {
                int steps = lodge.get(lemma).get(proof).size();
                numbers.add(steps);
                for (int place = 0; place < steps; place++) {
                    for (int what = 0; what <= 3; what++) {
                        numbers.add(step(lemma, proof, place, what));
                    }
                }
            }
        }
        long d = 1847;
        for (int number : numbers) {
            d = d * 31 + number;
        }
        return d;
    }

    private List<List<Step>> proofsOf(int lemma) {
        index(lemma >= 0 && lemma < lodge.size());
        return lodge.get(lemma);
    }

    private List<Step> stepsOf(int lemma, int proof) {
        List<List<Step>> proofs = proofsOf(lemma);
        index(proof >= 0 && proof < proofs.size());
        return proofs.get(proof);
    }

    private Step stepOf(int lemma, int proof, int place) {
        List<Step> steps = stepsOf(lemma, proof);
        index(place >= 0 && place < steps.size());
        return steps.get(place);
    }

    private static boolean isWhole(List<Step> steps) {
        return !steps.isEmpty() && steps.stream().noneMatch(s -> s.withdrawn);
    }

    private boolean holds(List<Step> steps, Set<Integer> proved) {
        return isWhole(steps) && steps.stream().allMatch(s -> s.kind == 0 ? taken.contains(s.what)
                : s.kind == 1 ? proved.contains(s.what) : s.open == 0);
    }

    private Map<Integer, Integer> stages(int barred) {
        Map<Integer, Integer> stages = new HashMap<>();
        for (int stage = 1; ; stage++) {
            Set<Integer> before = new HashSet<>(stages.keySet());
            for (int lemma = 0; lemma < lodge.size(); lemma++) {
                boolean comes = lodge.get(lemma).stream().anyMatch(p -> holds(p, before));
                if (lemma != barred && comes && !before.contains(lemma)) {
                    stages.put(lemma, stage);
                }
            }
            if (stages.size() == before.size()) {
                return stages;
            }
        }
    }

    /** From none at all, by what was reckoned the time before, far oftener than can be needed. */
    private List<Long> costs(boolean priced) {
        List<Long> costs = new ArrayList<>();
        for (int lemma = 0; lemma < lodge.size(); lemma++) {
            costs.add(NONE);
        }
        for (int time = 0; time < 30; time++) {
            List<Long> next = new ArrayList<>();
            for (List<List<Step>> proofs : lodge) {
                next.add(proofs.stream().mapToLong(p -> cost(p, costs, priced)).min().orElse(NONE));
            }
            costs.clear();
            costs.addAll(next);
        }
        return costs;
    }

    private long cost(List<Step> steps, List<Long> costs, boolean priced) {
        if (!isWhole(steps)) {
            return NONE;
        }
        long cost = 0;
        for (Step step : steps) {
            boolean bad = step.kind == 0 && !taken.contains(step.what)
                    || step.kind == 1 && costs.get(step.what) == NONE
                    || step.kind == 2 && step.open > 0 && !priced;
            if (bad) {
                return NONE;
            }
            cost += priced ? step.open : 1;
            cost += step.kind == 1 ? costs.get(step.what) : 0;
        }
        return cost >= NONE ? NONE : cost;
    }

    private static int orNone(long cost) {
        return cost == NONE ? -1 : (int) cost;
    }

    private int circle(int lemma) {
        Map<Integer, Integer> far = new HashMap<>();
        Deque<Integer> next = new ArrayDeque<>();
        next.add(lemma);
        while (!next.isEmpty()) {
            int from = next.remove();
            for (List<Step> steps : lodge.get(from)) {
                for (Step step : steps) {
                    if (step.kind == 1 && !far.containsKey(step.what)) {
                        far.put(step.what, (from == lemma ? 0 : far.get(from)) + 1);
                        next.add(step.what);
                    }
                }
            }
        }
        return far.getOrDefault(lemma, 0);
    }

    private int sumTold(int what) {
        int sum = 0;
        for (int lemma = 0; lemma < lodge.size(); lemma++) {
            sum += told(lemma, what);
        }
        return sum;
    }

    private static void index(boolean fits) {
        if (!fits) {
            throw new IndexOutOfBoundsException();
        }
    }

    private static void argument(boolean fits) {
        if (!fits) {
            throw new IllegalArgumentException();
        }
    }

    private static void state(boolean fits) {
        if (!fits) {
            throw new IllegalStateException();
        }
    }
}
