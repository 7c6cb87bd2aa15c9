import java.util.Arrays;

/**
 * Proofs of a lodge.
 *
 * <p>Each lemma has a fixed row of proofs, and each proof a fixed row of steps, all made by the
 * constructor; so no call makes anything. What follows from them (stages, lengths, prices,
 * circles) is found anew by each call that changes something, and is only read by the others.
 */
public final class LodgeProofs {
    private static final int AXIOMS = 5;
    private static final int MOST_LEMMAS = 12;
    private static final int MOST_PROOFS = 3;
    private static final int MOST_STEPS = 5;
    private static final int LARGEST_GAP = 9;

    private static final int AXIOM = 0;
    private static final int LEMMA = 1;
    private static final int GAP = 2;

    // How many things each of these calls can be asked for.
    private static final int COUNT_ASKS = 7;
    private static final int TOLD_ASKS = 7;
    private static final int STEP_ASKS = 4;
    private static final int ABOUT_ASKS = 4;

    private static final int TOLD_PROOFS = 0;
    private static final int TOLD_STEPS = 1;
    private static final int TOLD_OPEN = 5;

    // The document's bound itself stands for "none": a sum with it among its parts reaches it.
    private static final int NONE = 9999;
    private static final int NO_LEMMA = -1;

    private final boolean[] taken = new boolean[AXIOMS];
    private int lemmas;
    private final int[] proofs = new int[MOST_LEMMAS];

    // A proof's slot is found by slotOf; its steps stand in a row from firstStepOf.
    private final int[] steps = new int[MOST_LEMMAS * MOST_PROOFS];
    private final int[] kinds = new int[MOST_LEMMAS * MOST_PROOFS * MOST_STEPS];
    private final int[] cited = new int[MOST_LEMMAS * MOST_PROOFS * MOST_STEPS];
    private final int[] open = new int[MOST_LEMMAS * MOST_PROOFS * MOST_STEPS];
    private final boolean[] withdrawn = new boolean[MOST_LEMMAS * MOST_PROOFS * MOST_STEPS];

    // What follows from the rows above; settle writes it.
    private int proved;
    private final int[] stages = new int[MOST_LEMMAS];
    private final int[] lengths = new int[MOST_LEMMAS];
    private final int[] prices = new int[MOST_LEMMAS];
    private final int[] leads = new int[MOST_LEMMAS];
    private final int[] circles = new int[MOST_LEMMAS];

    // The stages of what would be, apart from those that are.
    private final int[] trial = new int[MOST_LEMMAS];

    public LodgeProofs() {
        for (int axiom = 0; axiom < AXIOMS; axiom++) {
            taken[axiom] = true;
        }
    }

    // ---- the lodge

    public boolean take(int axiom, boolean is) throws IndexOutOfBoundsException {
        requireAxiom(axiom);
        boolean was = taken[axiom];
        taken[axiom] = is;
        settle();
        return was;
    }

    public int lemma() throws IllegalStateException {
        if (lemmas >= MOST_LEMMAS) {
            throw new IllegalStateException("there are 12 lemmas");
        }
        lemmas++;
        settle();
        return lemmas - 1;
    }

    public int proof(int lemma) throws IndexOutOfBoundsException, IllegalStateException {
        requireLemma(lemma);
        int proof = proofs[lemma];
        if (proof >= MOST_PROOFS) {
            throw new IllegalStateException("the lemma has 3 proofs");
        }
        steps[slotOf(lemma, proof)] = 0;
        proofs[lemma] = proof + 1;
        settle();
        return proof;
    }

    public int cite(int lemma, int proof, int kind, int what)
            throws IndexOutOfBoundsException, IllegalArgumentException, IllegalStateException {
        requireProof(lemma, proof);
        requireCitable(kind, what);
        int slot = slotOf(lemma, proof);
        if (steps[slot] >= MOST_STEPS) {
            throw new IllegalStateException("the proof has 5 steps");
        }
        int at = endOfSteps(slot);
        kinds[at] = kind;
        cited[at] = what;
        open[at] = kind == GAP ? what : 0;
        withdrawn[at] = false;
        steps[slot]++;
        settle();
        return steps[slot];
    }

    public int patch(int lemma, int proof, int place, int by)
            throws IndexOutOfBoundsException, IllegalArgumentException, IllegalStateException {
        requireStep(lemma, proof, place);
        if (by < 1 || by > LARGEST_GAP) {
            throw new IllegalArgumentException("a patch is 1 to 9");
        }
        int at = stepAt(lemma, proof, place);
        // A step without a gap has nothing open, too.
        if (open[at] == 0) {
            throw new IllegalStateException("nothing is open there");
        }
        open[at] = Math.max(open[at] - by, 0);
        settle();
        return open[at];
    }

    public boolean withdraw(int lemma, int proof, int place) throws IndexOutOfBoundsException {
        requireStep(lemma, proof, place);
        int at = stepAt(lemma, proof, place);
        withdrawn[at] = !withdrawn[at];
        settle();
        return withdrawn[at];
    }

    public int strike(int lemma, int proof) throws IndexOutOfBoundsException {
        requireProof(lemma, proof);
        proofs[lemma]--;
        for (int left = proof; left < proofs[lemma]; left++) {
            moveUp(slotOf(lemma, left));
        }
        settle();
        return proofs[lemma];
    }

    // ---- what there is

    public int told(int lemma, int what) throws IndexOutOfBoundsException {
        requireLemma(lemma);
        requireAsk(what, TOLD_ASKS);
        return lemmaTells(lemma, what);
    }

    public int step(int lemma, int proof, int place, int what) throws IndexOutOfBoundsException {
        requireStep(lemma, proof, place);
        requireAsk(what, STEP_ASKS);
        return stepTells(stepAt(lemma, proof, place), what);
    }

    public int about(int lemma, int proof, int what) throws IndexOutOfBoundsException {
        requireProof(lemma, proof);
        requireAsk(what, ABOUT_ASKS);
        int slot = slotOf(lemma, proof);
        switch (what) {
            case 0:
                return steps[slot];
            case 1:
                return holds(slot, stages, MOST_LEMMAS + 1) ? 1 : 0;
            case 2:
                return orNone(costOfProof(slot, lengths, false));
            default:
                return orNone(costOfProof(slot, prices, true));
        }
    }

    public int count(int what) throws IndexOutOfBoundsException {
        requireAsk(what, COUNT_ASKS);
        return countOf(what);
    }

    public int best(int lemma) throws IndexOutOfBoundsException {
        requireLemma(lemma);
        int best = -1;
        int least = NONE;
        for (int proof = 0; proof < proofs[lemma]; proof++) {
            int length = costOfProof(slotOf(lemma, proof), lengths, false);
            if (length < least) {
                least = length;
                best = proof;
            }
        }
        return best;
    }

    // ---- what would be

    public int without(int lemma) throws IndexOutOfBoundsException {
        requireLemma(lemma);
        return prove(trial, lemma);
    }

    public boolean needs(int lemma, int axiom) throws IndexOutOfBoundsException {
        requireLemma(lemma);
        requireAxiom(axiom);
        boolean was = taken[axiom];
        taken[axiom] = false;
        prove(trial, NO_LEMMA);
        taken[axiom] = was;
        return stages[lemma] > 0 && trial[lemma] == 0;
    }

    public int advise() {
        int advice = -1;
        int most = proved;
        for (int lemma = 0; lemma < lemmas; lemma++) {
            for (int proof = 0; proof < proofs[lemma]; proof++) {
                for (int place = 0; place < steps[slotOf(lemma, proof)]; place++) {
                    int would = provedIfClosed(stepAt(lemma, proof, place));
                    if (would > most) {
                        most = would;
                        advice = 100 * lemma + 10 * proof + place;
                    }
                }
            }
        }
        return advice;
    }

    public double mean() {
        return lemmas == 0 ? 0.0 : (double) overLemmas(TOLD_STEPS) / lemmas;
    }

    public long digest() {
        long d = 1847;
        for (int what = 0; what < COUNT_ASKS; what++) {
            d = d * 31 + countOf(what);
        }
        for (int axiom = 0; axiom < AXIOMS; axiom++) {
            d = d * 31 + (taken[axiom] ? 1 : 0);
        }
        for (int lemma = 0; lemma < lemmas; lemma++) {
            d = digestLemma(d, lemma);
        }
        return d;
    }

    // What calls ask first.

    private static boolean isAxiom(int axiom) {
        return axiom >= 0 && axiom < AXIOMS;
    }

    private boolean isLemma(int lemma) {
        return lemma >= 0 && lemma < lemmas;
    }

    private static void requireAxiom(int axiom) {
        if (!isAxiom(axiom)) {
            throw new IndexOutOfBoundsException("no such axiom");
        }
    }

    private void requireLemma(int lemma) {
        if (!isLemma(lemma)) {
            throw new IndexOutOfBoundsException("no such lemma");
        }
    }

    private void requireProof(int lemma, int proof) {
        requireLemma(lemma);
        if (proof < 0 || proof >= proofs[lemma]) {
            throw new IndexOutOfBoundsException("no such proof");
        }
    }

    private void requireStep(int lemma, int proof, int place) {
        requireProof(lemma, proof);
        if (place < 0 || place >= steps[slotOf(lemma, proof)]) {
            throw new IndexOutOfBoundsException("no such step");
        }
    }

    private void requireCitable(int kind, int what) {
        if (kind < AXIOM || kind > GAP) {
            throw new IndexOutOfBoundsException("no such kind");
        }
        if (kind == AXIOM) {
            requireAxiom(what);
        } else if (kind == LEMMA) {
            requireLemma(what);
        } else if (what < 1 || what > LARGEST_GAP) {
            throw new IllegalArgumentException("a gap is 1 to 9");
        }
    }

    private static void requireAsk(int what, int asks) {
        if (what < 0 || what >= asks) {
            throw new IndexOutOfBoundsException("nothing such is told");
        }
    }

    // Where things stand.

    private static int slotOf(int lemma, int proof) {
        return lemma * MOST_PROOFS + proof;
    }

    private static int firstStepOf(int slot) {
        return slot * MOST_STEPS;
    }

    private int endOfSteps(int slot) {
        return slot * MOST_STEPS + steps[slot];
    }

    private static int stepAt(int lemma, int proof, int place) {
        return firstStepOf(slotOf(lemma, proof)) + place;
    }

    private void moveUp(int slot) {
        int from = slot + 1;
        int shift = firstStepOf(from) - firstStepOf(slot);
        steps[slot] = steps[from];
        for (int at = firstStepOf(slot); at < endOfSteps(slot); at++) {
            kinds[at] = kinds[at + shift];
            cited[at] = cited[at + shift];
            open[at] = open[at + shift];
            withdrawn[at] = withdrawn[at + shift];
        }
    }

    // What follows from what was changed.

    private void settle() {
        proved = prove(stages, NO_LEMMA);
        reckon(lengths, false);
        reckon(prices, true);
        for (int lemma = 0; lemma < lemmas; lemma++) {
            leads[lemma] = lemmasCitedBy(lemma);
        }
        for (int lemma = 0; lemma < lemmas; lemma++) {
            circles[lemma] = citesToItself(lemma);
        }
    }

    /** Writes the stage of each lemma, 0 if it is not proved, and tells how many are. */
    private int prove(int[] row, int barred) {
        Arrays.fill(row, 0);
        int found = 0;
        for (int stage = 1; stage <= lemmas; stage++) {
            int before = found;
            for (int lemma = 0; lemma < lemmas; lemma++) {
                if (lemma != barred && row[lemma] == 0 && hasProofAt(lemma, row, stage)) {
                    row[lemma] = stage;
                    found++;
                }
            }
            if (found == before) {
                break;
            }
        }
        return found;
    }

    private boolean hasProofAt(int lemma, int[] row, int stage) {
        for (int proof = 0; proof < proofs[lemma]; proof++) {
            if (holds(slotOf(lemma, proof), row, stage)) {
                return true;
            }
        }
        return false;
    }

    private boolean holds(int slot, int[] row, int stage) {
        if (!isWhole(slot)) {
            return false;
        }
        for (int at = firstStepOf(slot); at < endOfSteps(slot); at++) {
            if (!stepHolds(at, row, stage)) {
                return false;
            }
        }
        return true;
    }

    private boolean isWhole(int slot) {
        for (int at = firstStepOf(slot); at < endOfSteps(slot); at++) {
            if (withdrawn[at]) {
                return false;
            }
        }
        return steps[slot] > 0;
    }

    private boolean stepHolds(int at, int[] row, int stage) {
        int what = cited[at];
        if (kinds[at] == AXIOM) {
            return isAxiom(what) && taken[what];
        }
        if (kinds[at] == LEMMA) {
            return isLemma(what) && row[what] > 0 && row[what] < stage;
        }
        return open[at] == 0;
    }

    /**
     * Writes the length of each lemma, or its price. No proof costs less than a lemma that it
     * cites, so a least one needs no lemma twice on its way down: a round for each lemma is enough.
     */
    private void reckon(int[] row, boolean priced) {
        Arrays.fill(row, NONE);
        for (int round = 0; round < lemmas; round++) {
            if (!reckonRound(row, priced)) {
                break;
            }
        }
    }

    private boolean reckonRound(int[] row, boolean priced) {
        boolean changed = false;
        for (int lemma = 0; lemma < lemmas; lemma++) {
            for (int proof = 0; proof < proofs[lemma]; proof++) {
                int cost = costOfProof(slotOf(lemma, proof), row, priced);
                if (cost < row[lemma]) {
                    row[lemma] = cost;
                    changed = true;
                }
            }
        }
        return changed;
    }

    private int costOfProof(int slot, int[] row, boolean priced) {
        if (!isWhole(slot)) {
            return NONE;
        }
        int cost = priced ? 0 : steps[slot];
        for (int at = firstStepOf(slot); at < endOfSteps(slot); at++) {
            cost += costOfStep(at, row, priced);
        }
        return Math.min(cost, NONE);
    }

    private int costOfStep(int at, int[] row, boolean priced) {
        int what = cited[at];
        if (kinds[at] == AXIOM) {
            return isAxiom(what) && taken[what] ? 0 : NONE;
        }
        if (kinds[at] == LEMMA) {
            return isLemma(what) ? row[what] : NONE;
        }
        if (priced) {
            return open[at];
        }
        return open[at] == 0 ? 0 : NONE;
    }

    private static int orNone(int cost) {
        return cost >= NONE ? -1 : cost;
    }

    /** Tells a set of lemmas: the bit of each one that is in it. */
    private int lemmasCitedBy(int lemma) {
        int set = 0;
        for (int proof = 0; proof < proofs[lemma]; proof++) {
            int slot = slotOf(lemma, proof);
            for (int at = firstStepOf(slot); at < endOfSteps(slot); at++) {
                if (kinds[at] == LEMMA) {
                    set |= 1 << cited[at];
                }
            }
        }
        return set;
    }

    private int lemmasCitedByAll(int set) {
        int all = 0;
        for (int lemma = 0; lemma < lemmas; lemma++) {
            if (isIn(lemma, set)) {
                all |= leads[lemma];
            }
        }
        return all;
    }

    private static boolean isIn(int lemma, int set) {
        return (set & 1 << lemma) != 0;
    }

    private int citesToItself(int lemma) {
        int reached = leads[lemma];
        for (int cites = 1; cites <= lemmas; cites++) {
            if (isIn(lemma, reached)) {
                return cites;
            }
            reached = lemmasCitedByAll(reached);
        }
        return 0;
    }

    // What is told.

    private int lemmaTells(int lemma, int what) {
        switch (what) {
            case TOLD_PROOFS:
                return proofs[lemma];
            case TOLD_STEPS:
                return stepsOf(lemma);
            case 2:
                return stages[lemma];
            case 3:
                return orNone(lengths[lemma]);
            case 4:
                return orNone(prices[lemma]);
            case TOLD_OPEN:
                return openOf(lemma);
            default:
                return circles[lemma];
        }
    }

    private int stepsOf(int lemma) {
        int sum = 0;
        for (int proof = 0; proof < proofs[lemma]; proof++) {
            sum += steps[slotOf(lemma, proof)];
        }
        return sum;
    }

    private int openOf(int lemma) {
        int sum = 0;
        for (int proof = 0; proof < proofs[lemma]; proof++) {
            int slot = slotOf(lemma, proof);
            for (int at = firstStepOf(slot); at < endOfSteps(slot); at++) {
                sum += open[at];
            }
        }
        return sum;
    }

    private int stepTells(int at, int what) {
        switch (what) {
            case 0:
                return kinds[at];
            case 1:
                return cited[at];
            case 2:
                return open[at];
            default:
                return withdrawn[at] ? 1 : 0;
        }
    }

    private int countOf(int what) {
        switch (what) {
            case 0:
                return lemmas;
            case 1:
                return proved;
            case 2:
                return axiomsTaken();
            case 3:
                return overLemmas(TOLD_PROOFS);
            case 4:
                return overLemmas(TOLD_STEPS);
            case 5:
                return overLemmas(TOLD_OPEN);
            default:
                return lemmasInCircles();
        }
    }

    private int axiomsTaken() {
        int sum = 0;
        for (int axiom = 0; axiom < AXIOMS; axiom++) {
            if (taken[axiom]) {
                sum++;
            }
        }
        return sum;
    }

    private int overLemmas(int what) {
        int sum = 0;
        for (int lemma = 0; lemma < lemmas; lemma++) {
            sum += lemmaTells(lemma, what);
        }
        return sum;
    }

    private int lemmasInCircles() {
        int sum = 0;
        for (int lemma = 0; lemma < lemmas; lemma++) {
            if (circles[lemma] > 0) {
                sum++;
            }
        }
        return sum;
    }

    private int provedIfClosed(int at) {
        int was = open[at];
        if (was == 0) {
            return proved;
        }
        open[at] = 0;
        int would = prove(trial, NO_LEMMA);
        open[at] = was;
        return would;
    }

    private long digestLemma(long before, int lemma) {
        long d = before;
        for (int what = 0; what < TOLD_ASKS; what++) {
            d = d * 31 + lemmaTells(lemma, what);
        }
        for (int proof = 0; proof < proofs[lemma]; proof++) {
            d = digestProof(d, slotOf(lemma, proof));
        }
        return d;
    }

    private long digestProof(long before, int slot) {
        long d = before * 31 + steps[slot];
        for (int at = firstStepOf(slot); at < endOfSteps(slot); at++) {
            for (int what = 0; what < STEP_ASKS; what++) {
                d = d * 31 + stepTells(at, what);
            }
        }
        return d;
    }
}
