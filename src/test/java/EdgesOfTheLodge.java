/** The edges that promises 1 to 8 name: the lodge. */
final class EdgesOfTheLodge {
    private static final int[] FAR = {Integer.MIN_VALUE, Integer.MAX_VALUE};

    private final Check check;

    EdgesOfTheLodge(Check check) {
        this.check = check;
    }

    void run(Edges edges) {
        edges.of("Promise 1", "Creates a lodge without lemmas, with all axioms taken.",
                this::created);
        take(edges);
        lemmaAndProof(edges);
        cite(edges);
        patch(edges);
        withdraw(edges);
        strike(edges);
    }

    private void take(Edges edges) {
        String promise = "Promise 2";
        edges.of(promise, "whether it is taken from now on", this::takenFromNowOn);
        edges.of(promise, "Returns whether it was.", this::takeReturns);
        edges.of(promise, "Throws `IndexOutOfBoundsException` if axiom is not 0 to 4",
                this::takeIndex);
    }

    private void lemmaAndProof(Edges edges) {
        String lemma = "Promise 3";
        edges.of(lemma, "Returns the number of a new lemma, without proofs.", this::lemmaReturns);
        edges.of(lemma, "Throws `IllegalStateException` if there are 12", this::lemmaState);
        String proof = "Promise 4";
        edges.of(proof, "Begins a proof of a lemma, without steps.", this::proofBegins);
        edges.of(proof, "Returns the number of the proof.", this::proofReturns);
        edges.of(proof, "Throws `IndexOutOfBoundsException` if there is no such lemma",
                this::proofIndex);
        edges.of(proof, "Throws `IllegalStateException` if it has 3", this::proofState);
    }

    private void cite(Edges edges) {
        String promise = "Promise 5";
        String index = "Throws `IndexOutOfBoundsException` if there is no such lemma or proof,"
                + " kind is not 0 to 2, or there is no such axiom or lemma to cite";
        edges.of(promise, "Adds a step to the end of a proof.", this::citeAdds);
        edges.of(promise, "Returns how many steps the proof has then.", this::citeReturns);
        edges.of(promise, index, this::citeIndex);
        edges.of(promise, "kind is not 0 to 2", this::citeKind);
        edges.of(promise, "there is no such axiom or lemma to cite", this::citeWhat);
        edges.of(promise, "Throws `IllegalArgumentException` if the size of a gap is not 1 to 9",
                this::citeArgument);
        edges.of(promise, "Throws `IllegalStateException` if the proof has 5 steps",
                this::citeState);
    }

    private void patch(Edges edges) {
        String promise = "Promise 6";
        edges.of(promise, "Patches a gap: so much less of it is open, at least 0.",
                this::patchAtLeast0);
        edges.of(promise, "Returns what is open of it then.", this::patchReturns);
        edges.of(promise,
                "Throws `IndexOutOfBoundsException` if there is no such lemma, proof or step",
                this::patchIndex);
        edges.of(promise, "Throws `IllegalArgumentException` if by is not 1 to 9",
                this::patchArgument);
        edges.of(promise,
                "Throws `IllegalStateException` if the step has no gap, or nothing of it is open",
                this::patchState);
    }

    private void withdraw(Edges edges) {
        String promise = "Promise 7";
        edges.of(promise, "Withdraws a step, or puts it back, if it is withdrawn.",
                this::withdrawAndBack);
        edges.of(promise, "Returns whether it is withdrawn then.", this::withdrawReturns);
        edges.of(promise,
                "Throws `IndexOutOfBoundsException` if there is no such lemma, proof or step",
                this::withdrawIndex);
    }

    private void strike(Edges edges) {
        String promise = "Promise 8";
        edges.of(promise, "Strikes a proof; those behind it move up.", this::strikeMovesUp);
        edges.of(promise, "those behind it move up.", this::strikeMovesAllOfSteps);
        edges.of(promise, "Returns how many proofs the lemma has then.", this::strikeReturns);
        edges.of(promise, "Throws `IndexOutOfBoundsException` if there is no such lemma or proof",
                this::strikeIndex);
    }

    private void dueProof(String when, LodgeProofs x, int lemma, int proof, int... axioms) {
        check.due(when + ": about(" + lemma + ", " + proof + ", 0)", axioms.length,
                () -> x.about(lemma, proof, 0));
        for (int place = 0; place < axioms.length; place++) {
            int at = place;
            check.due(when + ": step(" + lemma + ", " + proof + ", " + place + ", 1)",
                    axioms[place], () -> x.step(lemma, proof, at, 1));
        }
    }

    private void created() {
        LodgeProofs x = new LodgeProofs();
        check.due("no lemma", 0, () -> x.count(0));
        check.due("no lemma at 0", Check.INDEX, () -> x.told(0, 0));
        check.due("all axioms", 5, () -> x.count(2));
        for (int axiom = 0; axiom < 5; axiom++) {
            int asked = axiom;
            check.due("axiom " + axiom, true, () -> new LodgeProofs().take(asked, true));
        }
        x.lemma();
        x.take(0, false);
        check.due("the next one has no lemma", 0, () -> new LodgeProofs().count(0));
        check.due("the next one has all axioms", 5, () -> new LodgeProofs().count(2));
    }

    private void takenFromNowOn() {
        LodgeProofs x = Lodges.of(5, 1);
        for (int axiom = 0; axiom < 5; axiom++) {
            x.cite(axiom, 0, 0, axiom);
        }
        for (int axiom : new int[] {0, 4}) {
            x.take(axiom, false);
            check.due("not " + axiom, 0, () -> x.told(axiom, 2));
            check.due("all but " + axiom, 4, () -> x.count(1));
            x.take(axiom, false);
            check.due("not twice", 4, () -> x.count(1));
            x.take(axiom, true);
            check.due("again " + axiom, 5, () -> x.count(1));
            x.take(axiom, true);
            check.due("again twice", 5, () -> x.count(1));
        }
    }

    private void takeReturns() {
        LodgeProofs x = new LodgeProofs();
        for (int axiom : new int[] {0, 4}) {
            check.due("taken at first", true, () -> x.take(axiom, true));
            check.due("taken still", true, () -> x.take(axiom, false));
            check.due("not taken", false, () -> x.take(axiom, false));
            check.due("not taken still", false, () -> x.take(axiom, true));
            check.due("taken again", true, () -> x.take(axiom, true));
        }
    }

    private void takeIndex() {
        LodgeProofs x = new LodgeProofs();
        for (boolean is : new boolean[] {false, true}) {
            check.refused("take(-1, " + is + ")", x, Check.INDEX, () -> x.take(-1, is));
            check.refused("take(5, " + is + ")", x, Check.INDEX, () -> x.take(5, is));
            for (int far : FAR) {
                check.refused("take(" + far + ", " + is + ")", x, Check.INDEX,
                        () -> x.take(far, is));
            }
        }
    }

    private void lemmaReturns() {
        LodgeProofs x = Lodges.of(1, 3);
        Lodges.cite(x, 0, 2, 0, 1, 2, 3);
        for (int lemma = 1; lemma < 12; lemma++) {
            int number = lemma;
            check.due("the next", number, x::lemma);
            check.due("its proofs", 0, () -> x.told(number, 0));
            check.due("its steps", 0, () -> x.told(number, 1));
            check.due("none at 0", Check.INDEX, () -> x.about(number, 0, 0));
        }
        check.due("the proofs there are", 3, () -> x.count(3));
    }

    private void lemmaState() {
        LodgeProofs x = Lodges.of(11, 0);
        check.due("there are 11", 11, x::lemma);
        check.refused("there are 12", x, Check.STATE, x::lemma);
        check.refused("there are 12 still", x, Check.STATE, x::lemma);
        check.due("count(0)", 12, () -> x.count(0));
        LodgeProofs full = Lodges.full();
        check.refused("all is full", full, Check.STATE, full::lemma);
    }

    private void proofBegins() {
        LodgeProofs x = Lodges.of(12, 0);
        x.proof(11);
        dueProof("begun", x, 11, 0);
        check.due("no step at 0", Check.INDEX, () -> x.step(11, 0, 0, 0));
        Lodges.cite(x, 11, 0, 0, 0, 1, 2, 3, 4);
        x.proof(11);
        dueProof("begun beside a full one", x, 11, 1);
        LodgeProofs full = Lodges.full();
        full.withdraw(11, 2, 0);
        full.strike(11, 2);
        full.proof(11);
        dueProof("begun where a full one was struck", full, 11, 2);
        full.cite(11, 2, 0, 3);
        dueProof("cited there", full, 11, 2, 3);
        check.due("not withdrawn, as the struck one was", 0, () -> full.step(11, 2, 0, 3));
        check.due("holds", 1, () -> full.about(11, 2, 1));
    }

    private void proofReturns() {
        LodgeProofs x = Lodges.of(12, 0);
        for (int lemma : new int[] {0, 11}) {
            check.due("the first of " + lemma, 0, () -> x.proof(lemma));
            check.due("the second of " + lemma, 1, () -> x.proof(lemma));
            check.due("the third of " + lemma, 2, () -> x.proof(lemma));
            x.strike(lemma, 0);
            check.due("the third again of " + lemma, 2, () -> x.proof(lemma));
        }
    }

    private void proofIndex() {
        LodgeProofs none = new LodgeProofs();
        check.refused("proof(0) in an empty lodge", none, Check.INDEX, () -> none.proof(0));
        LodgeProofs x = Lodges.of(11, 0);
        check.refused("proof(-1)", x, Check.INDEX, () -> x.proof(-1));
        check.refused("proof(11) of 11", x, Check.INDEX, () -> x.proof(11));
        x.lemma();
        check.due("proof(11) of 12", 0, () -> x.proof(11));
        check.refused("proof(12)", x, Check.INDEX, () -> x.proof(12));
        for (int far : FAR) {
            check.refused("proof(" + far + ")", x, Check.INDEX, () -> x.proof(far));
        }
    }

    private void proofState() {
        LodgeProofs x = Lodges.of(12, 2);
        check.due("it has 2", 2, () -> x.proof(11));
        check.refused("it has 3", x, Check.STATE, () -> x.proof(11));
        check.refused("it has 3 still", x, Check.STATE, () -> x.proof(11));
        check.due("another one has 2", 2, () -> x.proof(0));
        x.strike(11, 2);
        check.due("it has 2 again", 2, () -> x.proof(11));
    }

    private void citeAdds() {
        LodgeProofs x = Lodges.of(12, 3);
        Lodges.cite(x, 11, 2, 0, 4, 3, 2, 1, 0);
        dueProof("full", x, 11, 2, 4, 3, 2, 1, 0);
        dueProof("the one ahead of it", x, 11, 1);
        Lodges.cite(x, 11, 1, 0, 1, 2);
        dueProof("the one ahead of it", x, 11, 1, 1, 2);
        dueProof("full still", x, 11, 2, 4, 3, 2, 1, 0);
        dueProof("the first of all", x, 0, 0);
    }

    private void citeReturns() {
        LodgeProofs x = Lodges.of(1, 2);
        for (int steps = 1; steps <= 5; steps++) {
            check.due("of the first", steps, () -> x.cite(0, 0, 0, 0));
            check.due("of the second", steps, () -> x.cite(0, 1, 2, 9));
        }
    }

    private void citeIndex() {
        LodgeProofs none = new LodgeProofs();
        check.refused("in an empty lodge", none, Check.INDEX, () -> none.cite(0, 0, 0, 0));
        LodgeProofs x = Lodges.of(3, 2);
        x.lemma();
        check.refused("lemma -1", x, Check.INDEX, () -> x.cite(-1, 0, 0, 0));
        check.refused("lemma 4 of 4", x, Check.INDEX, () -> x.cite(4, 0, 0, 0));
        check.refused("proof -1", x, Check.INDEX, () -> x.cite(2, -1, 0, 0));
        check.refused("proof 2 of 2", x, Check.INDEX, () -> x.cite(2, 2, 0, 0));
        check.refused("proof 0 of none", x, Check.INDEX, () -> x.cite(3, 0, 0, 0));
        for (int far : FAR) {
            check.refused("lemma " + far, x, Check.INDEX, () -> x.cite(far, 0, 0, 0));
            check.refused("proof " + far, x, Check.INDEX, () -> x.cite(0, far, 0, 0));
        }
        check.due("the last proof there is", 1, () -> x.cite(2, 1, 0, 0));
    }

    private void citeKind() {
        LodgeProofs x = Lodges.of(2, 1);
        check.refused("kind -1", x, Check.INDEX, () -> x.cite(0, 0, -1, 1));
        check.refused("kind 3", x, Check.INDEX, () -> x.cite(0, 0, 3, 1));
        check.refused("kind 3, of what no kind has", x, Check.INDEX, () -> x.cite(0, 0, 3, 10));
        for (int far : FAR) {
            check.refused("kind " + far, x, Check.INDEX, () -> x.cite(0, 0, far, 1));
        }
        check.due("kind 0", 1, () -> x.cite(0, 0, 0, 1));
        check.due("kind 2", 2, () -> x.cite(0, 0, 2, 1));
    }

    private void citeWhat() {
        LodgeProofs x = Lodges.of(11, 1);
        check.refused("axiom -1", x, Check.INDEX, () -> x.cite(0, 0, 0, -1));
        check.refused("axiom 5", x, Check.INDEX, () -> x.cite(0, 0, 0, 5));
        check.refused("lemma -1", x, Check.INDEX, () -> x.cite(0, 0, 1, -1));
        check.refused("lemma 11 of 11", x, Check.INDEX, () -> x.cite(0, 0, 1, 11));
        for (int far : FAR) {
            check.refused("axiom " + far, x, Check.INDEX, () -> x.cite(0, 0, 0, far));
            check.refused("lemma " + far, x, Check.INDEX, () -> x.cite(0, 0, 1, far));
        }
        x.lemma();
        check.due("axiom 0", 1, () -> x.cite(0, 0, 0, 0));
        check.due("axiom 4", 2, () -> x.cite(0, 0, 0, 4));
        check.due("lemma 0", 3, () -> x.cite(0, 0, 1, 0));
        check.due("lemma 11 of 12", 4, () -> x.cite(0, 0, 1, 11));
        check.refused("lemma 12", x, Check.INDEX, () -> x.cite(0, 0, 1, 12));
        x.take(4, false);
        check.due("an axiom that is not taken", 5, () -> x.cite(0, 0, 0, 4));
    }

    private void citeArgument() {
        LodgeProofs x = Lodges.of(1, 1);
        check.refused("size -1", x, Check.ARGUMENT, () -> x.cite(0, 0, 2, -1));
        check.refused("size 0", x, Check.ARGUMENT, () -> x.cite(0, 0, 2, 0));
        check.refused("size 10", x, Check.ARGUMENT, () -> x.cite(0, 0, 2, 10));
        for (int far : FAR) {
            check.refused("size " + far, x, Check.ARGUMENT, () -> x.cite(0, 0, 2, far));
        }
        check.due("size 1", 1, () -> x.cite(0, 0, 2, 1));
        check.due("size 9", 2, () -> x.cite(0, 0, 2, 9));
    }

    private void citeState() {
        LodgeProofs x = Lodges.of(2, 2);
        Lodges.cite(x, 0, 0, 0, 0, 1, 2, 3);
        check.due("it has 4", 5, () -> x.cite(0, 0, 0, 4));
        check.refused("an axiom more", x, Check.STATE, () -> x.cite(0, 0, 0, 4));
        check.refused("a lemma more", x, Check.STATE, () -> x.cite(0, 0, 1, 1));
        check.refused("the least gap more", x, Check.STATE, () -> x.cite(0, 0, 2, 1));
        check.refused("the largest gap more", x, Check.STATE, () -> x.cite(0, 0, 2, 9));
        check.due("another proof has room", 1, () -> x.cite(0, 1, 0, 4));
    }

    private void patchAtLeast0() {
        LodgeProofs x = Lodges.withGap(9);
        x.patch(0, 0, 1, 1);
        check.due("8 are open", 8, () -> x.step(0, 0, 1, 2));
        x.patch(0, 0, 1, 9);
        check.due("not below 0", 0, () -> x.step(0, 0, 1, 2));
        check.due("the size stays", 9, () -> x.step(0, 0, 1, 1));
        check.due("the kind stays", 2, () -> x.step(0, 0, 1, 0));
        check.due("nothing is open at all", 0, () -> x.count(5));
        LodgeProofs least = Lodges.withGap(1);
        check.due("9 of 1", 0, () -> least.patch(0, 0, 1, 9));
    }

    private void patchReturns() {
        LodgeProofs x = Lodges.withGap(9);
        for (int open = 8; open >= 0; open--) {
            check.due("by 1", open, () -> x.patch(0, 0, 1, 1));
        }
        LodgeProofs all = Lodges.withGap(9);
        check.due("by 9", 0, () -> all.patch(0, 0, 1, 9));
        LodgeProofs most = Lodges.withGap(9);
        check.due("by 8", 1, () -> most.patch(0, 0, 1, 8));
        check.due("by 2", 0, () -> most.patch(0, 0, 1, 2));
    }

    private void patchIndex() {
        LodgeProofs none = new LodgeProofs();
        check.refused("in an empty lodge", none, Check.INDEX, () -> none.patch(0, 0, 0, 1));
        LodgeProofs x = Lodges.withGap(9);
        x.lemma();
        x.proof(0);
        check.refused("lemma -1", x, Check.INDEX, () -> x.patch(-1, 0, 1, 1));
        check.refused("lemma 2 of 2", x, Check.INDEX, () -> x.patch(2, 0, 1, 1));
        check.refused("proof -1", x, Check.INDEX, () -> x.patch(0, -1, 1, 1));
        check.refused("proof 2 of 2", x, Check.INDEX, () -> x.patch(0, 2, 1, 1));
        check.refused("proof 0 of none", x, Check.INDEX, () -> x.patch(1, 0, 0, 1));
        check.refused("step -1", x, Check.INDEX, () -> x.patch(0, 0, -1, 1));
        check.refused("step 2 of 2", x, Check.INDEX, () -> x.patch(0, 0, 2, 1));
        check.refused("step 0 of none", x, Check.INDEX, () -> x.patch(0, 1, 0, 1));
        for (int far : FAR) {
            check.refused("lemma " + far, x, Check.INDEX, () -> x.patch(far, 0, 1, 1));
            check.refused("proof " + far, x, Check.INDEX, () -> x.patch(0, far, 1, 1));
            check.refused("step " + far, x, Check.INDEX, () -> x.patch(0, 0, far, 1));
        }
        check.due("the gap there is", 8, () -> x.patch(0, 0, 1, 1));
    }

    private void patchArgument() {
        LodgeProofs x = Lodges.withGap(9);
        check.refused("by -1", x, Check.ARGUMENT, () -> x.patch(0, 0, 1, -1));
        check.refused("by 0", x, Check.ARGUMENT, () -> x.patch(0, 0, 1, 0));
        check.refused("by 10", x, Check.ARGUMENT, () -> x.patch(0, 0, 1, 10));
        for (int far : FAR) {
            check.refused("by " + far, x, Check.ARGUMENT, () -> x.patch(0, 0, 1, far));
        }
        check.due("by 1", 8, () -> x.patch(0, 0, 1, 1));
        check.due("by 9", 0, () -> x.patch(0, 0, 1, 9));
        check.refused("closed, by 0", x, Check.ARGUMENT, () -> x.patch(0, 0, 1, 0));
        check.refused("closed, by 10", x, Check.ARGUMENT, () -> x.patch(0, 0, 1, 10));
    }

    private void patchState() {
        LodgeProofs x = Lodges.withGap(2);
        x.cite(0, 0, 1, 0);
        check.refused("an axiom", x, Check.STATE, () -> x.patch(0, 0, 0, 1));
        check.refused("a lemma", x, Check.STATE, () -> x.patch(0, 0, 2, 9));
        check.due("a gap, 2 open", 1, () -> x.patch(0, 0, 1, 1));
        check.due("a gap, 1 open", 0, () -> x.patch(0, 0, 1, 1));
        check.refused("a gap, nothing open", x, Check.STATE, () -> x.patch(0, 0, 1, 1));
        check.refused("a gap, nothing open, by 9", x, Check.STATE, () -> x.patch(0, 0, 1, 9));
    }

    private void withdrawAndBack() {
        LodgeProofs x = Lodges.full();
        for (int place : new int[] {0, 4}) {
            x.withdraw(11, 2, place);
            for (int other = 0; other < 5; other++) {
                int at = other;
                check.due(place + " is: step(11, 2, " + other + ", 3)", other == place ? 1 : 0,
                        () -> x.step(11, 2, at, 3));
            }
            check.due("it is there still", 5, () -> x.about(11, 2, 0));
            check.due("it cites the same", place, () -> x.step(11, 2, place, 1));
            check.due("it proves nothing", 0, () -> x.about(11, 2, 1));
            x.withdraw(11, 2, place);
            check.due("put back", 0, () -> x.step(11, 2, place, 3));
            check.due("it proves again", 1, () -> x.about(11, 2, 1));
        }
        check.due("as it was", Lodges.full().digest(), x::digest);
    }

    private void withdrawReturns() {
        LodgeProofs x = Lodges.withGap(9);
        for (int place : new int[] {0, 1}) {
            check.due("withdrawn", true, () -> x.withdraw(0, 0, place));
            check.due("put back", false, () -> x.withdraw(0, 0, place));
            check.due("withdrawn again", true, () -> x.withdraw(0, 0, place));
        }
    }

    private void withdrawIndex() {
        LodgeProofs none = new LodgeProofs();
        check.refused("in an empty lodge", none, Check.INDEX, () -> none.withdraw(0, 0, 0));
        LodgeProofs x = Lodges.withGap(9);
        x.lemma();
        x.proof(0);
        check.refused("lemma -1", x, Check.INDEX, () -> x.withdraw(-1, 0, 0));
        check.refused("lemma 2 of 2", x, Check.INDEX, () -> x.withdraw(2, 0, 0));
        check.refused("proof -1", x, Check.INDEX, () -> x.withdraw(0, -1, 0));
        check.refused("proof 2 of 2", x, Check.INDEX, () -> x.withdraw(0, 2, 0));
        check.refused("proof 0 of none", x, Check.INDEX, () -> x.withdraw(1, 0, 0));
        check.refused("step -1", x, Check.INDEX, () -> x.withdraw(0, 0, -1));
        check.refused("step 2 of 2", x, Check.INDEX, () -> x.withdraw(0, 0, 2));
        check.refused("step 0 of none", x, Check.INDEX, () -> x.withdraw(0, 1, 0));
        for (int far : FAR) {
            check.refused("lemma " + far, x, Check.INDEX, () -> x.withdraw(far, 0, 0));
            check.refused("proof " + far, x, Check.INDEX, () -> x.withdraw(0, far, 0));
            check.refused("step " + far, x, Check.INDEX, () -> x.withdraw(0, 0, far));
        }
        check.due("the last step there is", true, () -> x.withdraw(0, 0, 1));
    }

    private void strikeMovesAllOfSteps() {
        LodgeProofs x = Lodges.of(12, 3);
        x.cite(11, 0, 0, 0);
        x.cite(11, 1, 1, 11);
        x.cite(11, 2, 2, 9);
        x.patch(11, 2, 0, 8);
        x.withdraw(11, 2, 0);
        int[][] steps = {{1, 11, 0, 0}, {2, 9, 1, 1}};
        x.strike(11, 0);
        for (int proof = 0; proof < 2; proof++) {
            for (int what = 0; what < 4; what++) {
                int of = proof;
                int asked = what;
                check.due("step(11, " + proof + ", 0, " + what + ")", steps[proof][what],
                        () -> x.step(11, of, 0, asked));
            }
        }
        check.due("what was proved by the struck one", 0, () -> x.told(11, 2));
    }

    /** The last lemma's proofs have no step, one, and five. */
    private static LodgeProofs toStrike() {
        LodgeProofs x = Lodges.of(12, 3);
        x.cite(11, 1, 0, 3);
        Lodges.cite(x, 11, 2, 0, 4, 3, 2, 1, 0);
        x.withdraw(11, 2, 4);
        return x;
    }

    private void strikeMovesUp() {
        LodgeProofs first = toStrike();
        first.strike(11, 0);
        dueProof("the first struck", first, 11, 0, 3);
        dueProof("the first struck", first, 11, 1, 4, 3, 2, 1, 0);
        check.due("withdrawn still", 1, () -> first.step(11, 1, 4, 3));
        check.due("none is at 2", Check.INDEX, () -> first.about(11, 2, 0));
        LodgeProofs middle = toStrike();
        middle.strike(11, 1);
        dueProof("the middle one struck", middle, 11, 0);
        dueProof("the middle one struck", middle, 11, 1, 4, 3, 2, 1, 0);
        LodgeProofs last = toStrike();
        last.strike(11, 2);
        dueProof("the last struck", last, 11, 0);
        dueProof("the last struck", last, 11, 1, 3);
        check.due("none is at 2", Check.INDEX, () -> last.about(11, 2, 0));
        check.due("another lemma has its own", 3, () -> last.told(10, 0));
        LodgeProofs full = Lodges.full();
        full.strike(10, 0);
        dueProof("the lemma behind it", full, 11, 0, 0, 1, 2, 3, 4);
        check.due("all but five steps", 175, () -> full.count(4));
    }

    private void strikeReturns() {
        LodgeProofs x = Lodges.full();
        for (int lemma : new int[] {0, 11}) {
            check.due("of 3", 2, () -> x.strike(lemma, 0));
            check.due("of 2", 1, () -> x.strike(lemma, 1));
            check.due("of 1", 0, () -> x.strike(lemma, 0));
            check.due("told(" + lemma + ", 0)", 0, () -> x.told(lemma, 0));
        }
    }

    private void strikeIndex() {
        LodgeProofs none = new LodgeProofs();
        check.refused("in an empty lodge", none, Check.INDEX, () -> none.strike(0, 0));
        LodgeProofs x = Lodges.of(2, 2);
        x.lemma();
        check.refused("lemma -1", x, Check.INDEX, () -> x.strike(-1, 0));
        check.refused("lemma 3 of 3", x, Check.INDEX, () -> x.strike(3, 0));
        check.refused("proof -1", x, Check.INDEX, () -> x.strike(0, -1));
        check.refused("proof 2 of 2", x, Check.INDEX, () -> x.strike(0, 2));
        check.refused("proof 0 of none", x, Check.INDEX, () -> x.strike(2, 0));
        for (int far : FAR) {
            check.refused("lemma " + far, x, Check.INDEX, () -> x.strike(far, 0));
            check.refused("proof " + far, x, Check.INDEX, () -> x.strike(0, far));
        }
        check.due("the last proof there is", 1, () -> x.strike(1, 1));
        check.refused("what was struck", x, Check.INDEX, () -> x.strike(1, 1));
        LodgeProofs full = Lodges.full();
        check.refused("proof 3 of the last lemma", full, Check.INDEX, () -> full.strike(11, 3));
        check.refused("lemma 12", full, Check.INDEX, () -> full.strike(12, 0));
    }
}
