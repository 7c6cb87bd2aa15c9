import java.math.BigInteger;
import java.util.ArrayList;
import java.util.List;

/** The edges that promises 14 to 18 name: what would be. */
final class EdgesOfWhatWouldBe {
    private static final int[] FAR = {Integer.MIN_VALUE, Integer.MAX_VALUE};

    private final Check check;

    EdgesOfWhatWouldBe(Check check) {
        this.check = check;
    }

    void run(Edges edges) {
        without(edges);
        needs(edges);
        advise(edges);
        edges.of("Promise 17", "Returns the mean of the steps of lemmas, of all their proofs;",
                this::mean);
        edges.of("Promise 17", "0 without any.", this::meanWithoutAny);
        digest(edges);
    }

    private void without(Edges edges) {
        String promise = "Promise 14";
        edges.of(promise, "Returns how many lemmas would be proved, if this one was not (so it does"
                + " not count), whatever proofs it has (nothing is changed).", this::withoutOne);
        edges.of(promise, "Throws `IndexOutOfBoundsException` if there is no such lemma",
                this::withoutIndex);
    }

    private void needs(Edges edges) {
        String promise = "Promise 15";
        edges.of(promise, "Returns whether the lemma is proved, and would not be, if this axiom was"
                + " not taken (nothing is changed).", this::needsAxiom);
        edges.of(promise, "Throws `IndexOutOfBoundsException` if there is no such lemma, or axiom"
                + " is not 0 to 4", this::needsIndex);
    }

    private void advise(Edges edges) {
        String promise = "Promise 16";
        edges.of(promise, "Returns 100 times the lemma, and 10 times the proof, and the place,"
                + " added, of the step with a gap that had best be closed", this::adviseNumber);
        edges.of(promise, "if nothing of it was open, the most lemmas would be proved",
                this::adviseMost);
        edges.of(promise, "of several the smallest lemma, then proof, then place",
                this::adviseSmallest);
        edges.of(promise, "-1 if by none there would be more than now (nothing is changed).",
                this::adviseNone);
    }

    private void digest(Edges edges) {
        String promise = "Promise 18";
        edges.of(promise, "A number d starts with 1847; for each of the following numbers x, d"
                + " becomes d * 31 + x, which wraps around as a 64-bit integer", this::wraps);
        edges.of(promise, "what count() tells, in its order; for each axiom 1 if it is taken, else"
                + " 0", this::digestOfNone);
        edges.of(promise, "for each lemma what told() tells, then for each of its proofs how many"
                + " steps it has, then for each step what step() tells (all in their order).",
                this::digestOfAll);
    }

    private void withoutOne() {
        LodgeProofs x = Lodges.of(12, 2);
        check.unchanged("none is proved", x, 0, () -> x.without(0));
        x.cite(11, 0, 0, 0);
        check.unchanged("the one that is proved", x, 0, () -> x.without(11));
        check.unchanged("one that is not proved", x, 1, () -> x.without(0));
        for (int lemma = 10; lemma >= 0; lemma--) {
            x.cite(lemma, 0, 1, lemma + 1);
        }
        check.unchanged("all are proved by it", x, 0, () -> x.without(11));
        check.unchanged("none is proved by it", x, 11, () -> x.without(0));
        check.unchanged("half of them are", x, 6, () -> x.without(5));
        x.cite(11, 1, 0, 1);
        check.unchanged("whatever proofs it has", x, 0, () -> x.without(11));
        x.cite(10, 1, 0, 1);
        check.unchanged("the next one has another proof", x, 11, () -> x.without(11));
        LodgeProofs full = Lodges.full();
        check.unchanged("a full lodge", full, 11, () -> full.without(11));
    }

    private void withoutIndex() {
        LodgeProofs none = new LodgeProofs();
        check.refused("in an empty lodge", none, Check.INDEX, () -> none.without(0));
        LodgeProofs x = Lodges.of(11, 1);
        check.refused("lemma -1", x, Check.INDEX, () -> x.without(-1));
        check.refused("lemma 11 of 11", x, Check.INDEX, () -> x.without(11));
        for (int far : FAR) {
            check.refused("lemma " + far, x, Check.INDEX, () -> x.without(far));
        }
        check.due("the last lemma there is", 0, () -> x.without(10));
        LodgeProofs full = Lodges.full();
        check.refused("lemma 12", full, Check.INDEX, () -> full.without(12));
    }

    private void needsAxiom() {
        LodgeProofs x = Lodges.of(12, 2);
        check.unchanged("an empty proof", x, false, () -> x.needs(11, 0));
        x.cite(11, 0, 0, 0);
        x.cite(11, 0, 0, 4);
        x.cite(0, 0, 1, 11);
        check.unchanged("the first axiom", x, true, () -> x.needs(11, 0));
        check.unchanged("the last axiom", x, true, () -> x.needs(11, 4));
        check.unchanged("one that it does not cite", x, false, () -> x.needs(11, 3));
        check.unchanged("through another lemma", x, true, () -> x.needs(0, 4));
        x.cite(11, 1, 0, 4);
        check.unchanged("by one of its proofs alone", x, false, () -> x.needs(11, 0));
        check.unchanged("by both", x, true, () -> x.needs(11, 4));
        x.take(4, false);
        check.unchanged("not proved, as the axiom is not taken", x, false, () -> x.needs(11, 4));
        check.unchanged("not proved, for another axiom", x, false, () -> x.needs(11, 0));
        check.due("nothing is changed", 4, () -> x.count(2));
        LodgeProofs few = Lodges.of(12, 1);
        few.cite(11, 0, 0, 4);
        check.unchanged("one that is proved, the first is not", few, true, () -> few.needs(11, 4));
        few.cite(0, 0, 0, 3);
        check.unchanged("one that is proved, the first is, too", few, true,
                () -> few.needs(11, 4));
        check.unchanged("one that is not proved, the first is", few, false,
                () -> few.needs(1, 3));
    }

    private void needsIndex() {
        LodgeProofs none = new LodgeProofs();
        check.refused("in an empty lodge", none, Check.INDEX, () -> none.needs(0, 0));
        LodgeProofs x = Lodges.full();
        check.refused("lemma -1", x, Check.INDEX, () -> x.needs(-1, 0));
        check.refused("lemma 12", x, Check.INDEX, () -> x.needs(12, 0));
        check.refused("axiom -1", x, Check.INDEX, () -> x.needs(0, -1));
        check.refused("axiom 5", x, Check.INDEX, () -> x.needs(0, 5));
        for (int far : FAR) {
            check.refused("lemma " + far, x, Check.INDEX, () -> x.needs(far, 0));
            check.refused("axiom " + far, x, Check.INDEX, () -> x.needs(0, far));
        }
        check.due("the first of all", true, () -> x.needs(0, 0));
        check.due("the last of all", true, () -> x.needs(11, 4));
        LodgeProofs few = Lodges.of(11, 1);
        check.refused("lemma 11 of 11", few, Check.INDEX, () -> few.needs(11, 0));
    }

    private void adviseNumber() {
        LodgeProofs x = Lodges.of(12, 3);
        Lodges.cite(x, 11, 2, 0, 0, 1, 2, 3);
        x.cite(11, 2, 2, 9);
        check.unchanged("the last of all", x, 1124, x::advise);
        x.cite(0, 0, 2, 9);
        check.unchanged("the first of all", x, 0, x::advise);
        x.patch(0, 0, 0, 8);
        check.unchanged("1 of it is open", x, 0, x::advise);
        x.patch(0, 0, 0, 1);
        check.unchanged("nothing of it is open", x, 1124, x::advise);
        LodgeProofs rest = Lodges.of(11, 0);
        rest.lemma();
        rest.proof(11);
        rest.proof(11);
        rest.cite(11, 1, 2, 1);
        check.unchanged("the others have no proof", rest, 1110, rest::advise);
    }

    private void adviseMost() {
        LodgeProofs x = Lodges.of(12, 2);
        x.cite(0, 0, 2, 1);
        x.cite(1, 0, 2, 1);
        x.cite(2, 0, 1, 1);
        check.unchanged("two by the later gap", x, 100, x::advise);
        x.cite(11, 1, 2, 9);
        for (int lemma = 10; lemma > 2; lemma--) {
            x.cite(lemma, 0, 1, lemma + 1);
        }
        check.unchanged("nine by the last one", x, 1110, x::advise);
        x.cite(11, 1, 2, 9);
        check.unchanged("two gaps in one proof", x, 100, x::advise);
    }

    private void adviseSmallest() {
        LodgeProofs x = Lodges.of(12, 3);
        Lodges.cite(x, 11, 2, 1, 10, 10);
        x.cite(11, 2, 2, 1);
        x.cite(10, 2, 2, 9);
        check.unchanged("the smallest lemma", x, 1020, x::advise);
        x.cite(10, 1, 2, 9);
        check.unchanged("the smallest proof", x, 1010, x::advise);
        Lodges.cite(x, 10, 0, 0, 0, 0, 0, 0);
        x.cite(10, 0, 2, 9);
        check.unchanged("proof ahead of place", x, 1004, x::advise);
        x.cite(9, 2, 0, 0);
        x.cite(9, 2, 2, 9);
        check.unchanged("lemma ahead of proof", x, 921, x::advise);
        smallestPlace();
    }

    /** Only one gap of a proof can be open for it to help, so a tie of places is one with itself. */
    private void smallestPlace() {
        LodgeProofs x = Lodges.of(1, 1);
        Lodges.cite(x, 0, 0, 2, 3, 3, 3);
        x.patch(0, 0, 0, 3);
        check.unchanged("two places are open", x, -1, x::advise);
        x.patch(0, 0, 2, 3);
        check.unchanged("the one place that is open", x, 1, x::advise);
    }

    private void adviseNone() {
        LodgeProofs none = new LodgeProofs();
        check.unchanged("an empty lodge", none, -1, none::advise);
        LodgeProofs full = Lodges.full();
        check.unchanged("a full one without gaps", full, -1, full::advise);
        LodgeProofs x = Lodges.of(2, 2);
        check.unchanged("no steps", x, -1, x::advise);
        x.cite(0, 0, 2, 9);
        x.cite(0, 0, 1, 0);
        check.unchanged("what cites itself", x, -1, x::advise);
        x.cite(1, 0, 2, 9);
        check.unchanged("the other lemma's gap", x, 100, x::advise);
        x.withdraw(1, 0, 0);
        check.unchanged("withdrawn", x, -1, x::advise);
        x.withdraw(1, 0, 0);
        x.cite(1, 1, 0, 0);
        check.unchanged("proved otherwise", x, -1, x::advise);
        x.take(0, false);
        check.unchanged("not any more", x, 100, x::advise);
        x.patch(1, 0, 0, 9);
        check.unchanged("closed", x, -1, x::advise);
    }

    private void mean() {
        LodgeProofs full = Lodges.full();
        check.unchanged("full", full, 15.0, full::mean);
        full.withdraw(0, 0, 0);
        check.unchanged("withdrawn, too", full, 15.0, full::mean);
        full.strike(0, 0);
        check.unchanged("struck", full, 175 / 12.0, full::mean);
        LodgeProofs x = Lodges.of(3, 0);
        x.proof(2);
        x.cite(2, 0, 0, 0);
        check.unchanged("less than 1", x, 1 / 3.0, x::mean);
    }

    private void meanWithoutAny() {
        LodgeProofs x = new LodgeProofs();
        check.unchanged("no lemma", x, 0.0, x::mean);
        x.lemma();
        check.unchanged("no proof", x, 0.0, x::mean);
        x.proof(0);
        check.unchanged("no step", x, 0.0, x::mean);
        x.cite(0, 0, 0, 0);
        check.unchanged("a step", x, 1.0, x::mean);
    }

    /** What d is in the end, reckoned without a bound and cut to its last 64 bits at last. */
    private static long uncut(List<Integer> numbers) {
        BigInteger d = BigInteger.valueOf(1847);
        for (int number : numbers) {
            d = d.multiply(BigInteger.valueOf(31)).add(BigInteger.valueOf(number));
        }
        return d.longValue();
    }

    private void wraps() {
        List<Integer> numbers = new ArrayList<>(List.of(0, 0, 5, 0, 0, 0, 0, 1, 1, 1, 1, 1));
        LodgeProofs x = new LodgeProofs();
        check.unchanged("an empty lodge wraps around", x, uncut(numbers), x::digest);
        check.due("to less than 0", true, () -> x.digest() < 0);
        x.lemma();
        numbers.set(0, 1);
        numbers.addAll(List.of(0, 0, 0, -1, -1, 0, 0));
        check.unchanged("with -1 for none", x, uncut(numbers), x::digest);
    }

    private void digestOfNone() {
        LodgeProofs x = new LodgeProofs();
        x.take(0, false);
        check.due("without axiom 0", uncut(List.of(0, 0, 4, 0, 0, 0, 0, 0, 1, 1, 1, 1)), x::digest);
        x.take(0, true);
        x.take(4, false);
        check.due("without axiom 4", uncut(List.of(0, 0, 4, 0, 0, 0, 0, 1, 1, 1, 1, 0)), x::digest);
        for (int axiom = 0; axiom < 4; axiom++) {
            x.take(axiom, false);
        }
        check.due("without any", uncut(List.of(0, 0, 0, 0, 0, 0, 0, 0, 0, 0, 0, 0)), x::digest);
    }

    private void digestOfAll() {
        LodgeProofs x = Lodges.full();
        List<Integer> numbers = new ArrayList<>(List.of(12, 12, 5, 36, 180, 0, 0, 1, 1, 1, 1, 1));
        for (int lemma = 0; lemma < 12; lemma++) {
            numbers.addAll(List.of(3, 15, 1, 5, 0, 0, 0));
            for (int proof = 0; proof < 3; proof++) {
                numbers.add(5);
                for (int place = 0; place < 5; place++) {
                    numbers.addAll(List.of(0, place, 0, 0));
                }
            }
        }
        check.due("full", uncut(numbers), x::digest);
        x.withdraw(11, 2, 4);
        numbers.set(numbers.size() - 1, 1);
        check.due("the last number of all", uncut(numbers), x::digest);
        emptyProofs();
        unlikeProofs();
    }

    private void unlikeProofs() {
        LodgeProofs x = Lodges.of(2, 0);
        x.proof(1);
        x.cite(1, 0, 1, 0);
        check.due("a lemma without proofs, and one with a proof", uncut(List.of(
                2, 0, 5, 1, 1, 0, 0,
                1, 1, 1, 1, 1,
                0, 0, 0, -1, -1, 0, 0,
                1, 1, 0, -1, -1, 0, 0, 1, 1, 0, 0, 0)), x::digest);
    }

    private void emptyProofs() {
        LodgeProofs x = Lodges.of(2, 2);
        x.cite(1, 1, 2, 9);
        x.patch(1, 1, 0, 2);
        check.due("proofs without steps", uncut(List.of(
                2, 0, 5, 4, 1, 7, 0,
                1, 1, 1, 1, 1,
                2, 0, 0, -1, -1, 0, 0, 0, 0,
                2, 1, 0, -1, 7, 7, 0, 0, 1, 2, 9, 7, 0)), x::digest);
    }
}
