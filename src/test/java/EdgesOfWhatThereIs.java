/** The edges that promises 9 to 13 name: what there is. */
final class EdgesOfWhatThereIs {
    private static final int[] FAR = {Integer.MIN_VALUE, Integer.MAX_VALUE};

    private final Check check;

    EdgesOfWhatThereIs(Check check) {
        this.check = check;
    }

    void run(Edges edges) {
        told(edges);
        step(edges);
        about(edges);
        count(edges);
        String best = "Promise 13";
        edges.of(best, "Returns its proof with the least length, of several the smallest number;"
                + " -1 if none has one.", this::best);
        edges.of(best, "Throws `IndexOutOfBoundsException` if there is no such lemma",
                this::bestIndex);
    }

    private void told(Edges edges) {
        String promise = "Promise 9";
        edges.of(promise, "0 its proofs, 1 steps of all of them", this::proofsAndSteps);
        edges.of(promise, "2 the stage at which it is proved, 0 if it is not", this::stage);
        edges.of(promise, "3 its length, -1 for none", this::length);
        edges.of(promise, "4 its price, -1 for none", this::price);
        edges.of(promise, "5 what is open of gaps of all its proofs, added (of withdrawn steps,"
                + " too)", this::open);
        edges.of(promise, "6 by how many cites it leads to itself at the least, 0 if it is in no"
                + " circle", this::cites);
        edges.of(promise, "Throws `IndexOutOfBoundsException` if there is no such lemma, or what"
                + " is not 0 to 6", this::toldIndex);
    }

    private void step(Edges edges) {
        String promise = "Promise 10";
        edges.of(promise, "0 its kind, 1 the axiom or lemma that it cites, or the size of its gap",
                this::kindAndWhat);
        edges.of(promise, "2 what is open of its gap, 0 without one", this::openOfStep);
        edges.of(promise, "3 1 if it is withdrawn, else 0", this::withdrawnOrNot);
        edges.of(promise, "Throws `IndexOutOfBoundsException` if there is no such lemma, proof or"
                + " step, or what is not 0 to 3", this::stepIndex);
    }

    private void about(Edges edges) {
        String promise = "Promise 11";
        edges.of(promise, "0 its steps", this::stepsOfProof);
        edges.of(promise, "1 1 if it holds (by all lemmas that are proved), else 0", this::holds);
        edges.of(promise, "2 its length, 3 its price, -1 for none of these two",
                this::lengthAndPrice);
        edges.of(promise, "Throws `IndexOutOfBoundsException` if there is no such lemma or proof,"
                + " or what is not 0 to 3", this::aboutIndex);
    }

    private void count(Edges edges) {
        String promise = "Promise 12";
        edges.of(promise, "0 lemmas, 1 those that are proved", this::countLemmas);
        edges.of(promise, "2 axioms that are taken", this::countAxioms);
        edges.of(promise, "3 proofs, 4 steps", this::countSteps);
        edges.of(promise, "5 what is open of all gaps, added", this::countOpen);
        edges.of(promise, "6 lemmas in circles", this::countCircles);
        edges.of(promise, "Throws `IndexOutOfBoundsException` if what is not 0 to 6",
                this::countIndex);
    }

    private void dueTold(String when, LodgeProofs x, int lemma, int what, int answer) {
        check.due(when + ": told(" + lemma + ", " + what + ")", answer, () -> x.told(lemma, what));
    }

    private void dueAbout(String when, LodgeProofs x, int lemma, int proof, int what, int answer) {
        check.due(when + ": about(" + lemma + ", " + proof + ", " + what + ")", answer,
                () -> x.about(lemma, proof, what));
    }

    private void dueStep(String when, LodgeProofs x, int place, int what, int answer) {
        check.due(when + ": step(11, 2, " + place + ", " + what + ")", answer,
                () -> x.step(11, 2, place, what));
    }

    private void dueCount(String when, LodgeProofs x, int what, int answer) {
        check.due(when + ": count(" + what + ")", answer, () -> x.count(what));
    }

    private void proofsAndSteps() {
        LodgeProofs x = Lodges.of(12, 0);
        dueTold("empty", x, 11, 0, 0);
        dueTold("empty", x, 11, 1, 0);
        x.proof(11);
        dueTold("an empty proof", x, 11, 0, 1);
        dueTold("an empty proof", x, 11, 1, 0);
        LodgeProofs full = Lodges.full();
        for (int lemma : new int[] {0, 11}) {
            dueTold("full", full, lemma, 0, 3);
            dueTold("full", full, lemma, 1, 15);
        }
        full.withdraw(11, 2, 4);
        dueTold("withdrawn ones count", full, 11, 1, 15);
        full.strike(11, 2);
        dueTold("one struck", full, 11, 0, 2);
        dueTold("one struck", full, 11, 1, 10);
    }

    private void stage() {
        LodgeProofs x = Lodges.of(12, 0);
        dueTold("empty", x, 0, 2, 0);
        x.proof(0);
        x.cite(0, 0, 0, 0);
        dueTold("the first stage", x, 0, 2, 1);
        for (int lemma = 1; lemma < 12; lemma++) {
            x.proof(lemma);
            x.cite(lemma, 0, 1, lemma - 1);
        }
        dueTold("the twelfth stage", x, 11, 2, 12);
        x.take(0, false);
        dueTold("none any more", x, 0, 2, 0);
        dueTold("none any more", x, 11, 2, 0);
        LodgeProofs full = Lodges.full();
        dueTold("full", full, 11, 2, 1);
    }

    private void length() {
        LodgeProofs x = Lodges.longOnes();
        dueTold("5", x, 0, 3, 5);
        dueTold("9998", x, 11, 3, 9998);
        x.cite(11, 0, 0, 0);
        dueTold("9999", x, 11, 3, -1);
        LodgeProofs none = Lodges.of(1, 0);
        dueTold("no proof", none, 0, 3, -1);
        none.proof(0);
        dueTold("an empty proof", none, 0, 3, -1);
        none.cite(0, 0, 0, 0);
        dueTold("one step", none, 0, 3, 1);
        dueTold("full", Lodges.full(), 11, 3, 5);
    }

    private void price() {
        LodgeProofs x = Lodges.dearOnes();
        dueTold("9", x, 0, 4, 9);
        x.cite(9, 0, 2, 8);
        dueTold("9998", x, 9, 4, 9998);
        x.cite(9, 0, 2, 1);
        dueTold("9999", x, 9, 4, -1);
        LodgeProofs none = Lodges.of(1, 0);
        dueTold("no proof", none, 0, 4, -1);
        none.proof(0);
        dueTold("an empty proof", none, 0, 4, -1);
        none.cite(0, 0, 0, 0);
        dueTold("nothing to be patched", none, 0, 4, 0);
        dueTold("full", Lodges.full(), 11, 4, 0);
    }

    private void open() {
        LodgeProofs x = Lodges.of(12, 3);
        dueTold("empty", x, 11, 5, 0);
        for (int proof = 0; proof < 3; proof++) {
            Lodges.cite(x, 11, proof, 2, 9, 9, 9, 9, 9);
        }
        dueTold("full of gaps", x, 11, 5, 135);
        dueTold("the lemma ahead of it", x, 10, 5, 0);
        x.withdraw(11, 2, 4);
        dueTold("withdrawn, too", x, 11, 5, 135);
        x.patch(11, 2, 4, 1);
        dueTold("withdrawn, and patched", x, 11, 5, 134);
        x.strike(11, 0);
        dueTold("struck", x, 11, 5, 89);
        dueTold("full of axioms", Lodges.full(), 11, 5, 0);
    }

    private void cites() {
        LodgeProofs x = Lodges.of(12, 2);
        dueTold("empty", x, 11, 6, 0);
        for (int lemma = 0; lemma < 12; lemma++) {
            x.cite(lemma, 0, 1, (lemma + 1) % 12);
        }
        dueTold("by twelve", x, 0, 6, 12);
        dueTold("by twelve", x, 11, 6, 12);
        x.cite(10, 1, 1, 0);
        dueTold("by eleven at the least", x, 0, 6, 11);
        dueTold("by twelve still", x, 11, 6, 12);
        x.cite(11, 1, 1, 11);
        dueTold("by one at the least", x, 11, 6, 1);
        x.strike(9, 0);
        dueTold("in no circle any more", x, 0, 6, 0);
        dueTold("by one still", x, 11, 6, 1);
    }

    private void toldIndex() {
        LodgeProofs none = new LodgeProofs();
        check.refused("in an empty lodge", none, Check.INDEX, () -> none.told(0, 0));
        LodgeProofs x = Lodges.of(11, 1);
        check.refused("lemma -1", x, Check.INDEX, () -> x.told(-1, 0));
        check.refused("lemma 11 of 11", x, Check.INDEX, () -> x.told(11, 0));
        check.refused("what -1", x, Check.INDEX, () -> x.told(0, -1));
        check.refused("what 7", x, Check.INDEX, () -> x.told(0, 7));
        for (int far : FAR) {
            check.refused("lemma " + far, x, Check.INDEX, () -> x.told(far, 0));
            check.refused("what " + far, x, Check.INDEX, () -> x.told(0, far));
        }
        dueTold("the last lemma there is", x, 10, 0, 1);
        dueTold("the last what", x, 10, 6, 0);
        x.lemma();
        check.refused("lemma 12 of 12", x, Check.INDEX, () -> x.told(12, 0));
    }

    private void kindAndWhat() {
        LodgeProofs x = Lodges.of(12, 3);
        int[][] steps = {{0, 0}, {0, 4}, {1, 0}, {1, 11}, {2, 9}};
        for (int[] step : steps) {
            x.cite(11, 2, step[0], step[1]);
        }
        for (int place = 0; place < 5; place++) {
            dueStep("all kinds", x, place, 0, steps[place][0]);
            dueStep("all kinds", x, place, 1, steps[place][1]);
        }
        x.patch(11, 2, 4, 9);
        dueStep("closed, still a gap", x, 4, 0, 2);
        dueStep("closed, still of its size", x, 4, 1, 9);
    }

    private void openOfStep() {
        LodgeProofs x = Lodges.of(12, 3);
        x.cite(11, 2, 0, 4);
        x.cite(11, 2, 1, 11);
        x.cite(11, 2, 2, 1);
        x.cite(11, 2, 2, 9);
        dueStep("an axiom", x, 0, 2, 0);
        dueStep("a lemma", x, 1, 2, 0);
        dueStep("the least gap", x, 2, 2, 1);
        dueStep("the largest gap", x, 3, 2, 9);
        x.withdraw(11, 2, 3);
        dueStep("withdrawn", x, 3, 2, 9);
        x.patch(11, 2, 3, 8);
        dueStep("patched", x, 3, 2, 1);
        x.patch(11, 2, 3, 8);
        dueStep("closed", x, 3, 2, 0);
    }

    private void withdrawnOrNot() {
        LodgeProofs x = Lodges.full();
        for (int place : new int[] {0, 4}) {
            dueStep("at first", x, place, 3, 0);
            x.withdraw(11, 2, place);
            dueStep("withdrawn", x, place, 3, 1);
        }
        dueStep("between them", x, 2, 3, 0);
        x.withdraw(11, 2, 0);
        dueStep("put back", x, 0, 3, 0);
        dueStep("the other one still", x, 4, 3, 1);
    }

    private void stepIndex() {
        LodgeProofs none = new LodgeProofs();
        check.refused("in an empty lodge", none, Check.INDEX, () -> none.step(0, 0, 0, 0));
        LodgeProofs x = Lodges.withGap(9);
        x.lemma();
        x.proof(0);
        check.refused("lemma -1", x, Check.INDEX, () -> x.step(-1, 0, 0, 0));
        check.refused("lemma 2 of 2", x, Check.INDEX, () -> x.step(2, 0, 0, 0));
        check.refused("proof -1", x, Check.INDEX, () -> x.step(0, -1, 0, 0));
        check.refused("proof 2 of 2", x, Check.INDEX, () -> x.step(0, 2, 0, 0));
        check.refused("proof 0 of none", x, Check.INDEX, () -> x.step(1, 0, 0, 0));
        check.refused("step -1", x, Check.INDEX, () -> x.step(0, 0, -1, 0));
        check.refused("step 2 of 2", x, Check.INDEX, () -> x.step(0, 0, 2, 0));
        check.refused("step 0 of none", x, Check.INDEX, () -> x.step(0, 1, 0, 0));
        check.refused("what -1", x, Check.INDEX, () -> x.step(0, 0, 0, -1));
        check.refused("what 4", x, Check.INDEX, () -> x.step(0, 0, 0, 4));
        for (int far : FAR) {
            check.refused("lemma " + far, x, Check.INDEX, () -> x.step(far, 0, 0, 0));
            check.refused("proof " + far, x, Check.INDEX, () -> x.step(0, far, 0, 0));
            check.refused("step " + far, x, Check.INDEX, () -> x.step(0, 0, far, 0));
            check.refused("what " + far, x, Check.INDEX, () -> x.step(0, 0, 0, far));
        }
        check.due("the last step there is", 9, () -> x.step(0, 0, 1, 1));
        check.due("the last what", 0, () -> x.step(0, 0, 1, 3));
        LodgeProofs full = Lodges.full();
        check.refused("step 5 of a full one", full, Check.INDEX, () -> full.step(11, 2, 5, 0));
    }

    private void stepsOfProof() {
        LodgeProofs x = Lodges.of(12, 3);
        dueAbout("empty", x, 11, 2, 0, 0);
        Lodges.cite(x, 11, 2, 0, 0, 1, 2, 3, 4);
        dueAbout("full", x, 11, 2, 0, 5);
        dueAbout("the one ahead of it", x, 11, 1, 0, 0);
        x.withdraw(11, 2, 4);
        dueAbout("a withdrawn one counts", x, 11, 2, 0, 5);
    }

    private void holds() {
        LodgeProofs x = Lodges.of(12, 2);
        dueAbout("empty", x, 0, 0, 1, 0);
        x.cite(0, 0, 0, 0);
        for (int lemma = 1; lemma < 12; lemma++) {
            x.cite(lemma, 0, 1, lemma - 1);
        }
        dueAbout("the first stage", x, 0, 0, 1, 1);
        dueAbout("the last stage", x, 11, 0, 1, 1);
        x.cite(0, 1, 1, 11);
        dueAbout("by the last stage of all", x, 0, 1, 1, 1);
        x.cite(11, 1, 1, 11);
        dueAbout("by the lemma itself, proved otherwise", x, 11, 1, 1, 1);
        x.withdraw(0, 0, 0);
        dueAbout("the first withdrawn", x, 0, 0, 1, 0);
        dueAbout("by a circle alone", x, 0, 1, 1, 0);
        dueAbout("by the lemma itself alone", x, 11, 1, 1, 0);
    }

    private void lengthAndPrice() {
        LodgeProofs x = Lodges.longOnes();
        dueAbout("9998", x, 11, 0, 2, 9998);
        dueAbout("9998 long", x, 11, 0, 3, 0);
        x.cite(11, 0, 0, 0);
        dueAbout("9999", x, 11, 0, 2, -1);
        dueAbout("9999 long", x, 11, 0, 3, 0);
        LodgeProofs dear = Lodges.dearOnes();
        dear.cite(9, 0, 2, 8);
        dueAbout("9998", dear, 9, 0, 3, 9998);
        dueAbout("9998 dear", dear, 9, 0, 2, -1);
        dear.cite(9, 0, 2, 1);
        dueAbout("9999", dear, 9, 0, 3, -1);
        LodgeProofs none = Lodges.of(1, 1);
        dueAbout("empty", none, 0, 0, 2, -1);
        dueAbout("empty", none, 0, 0, 3, -1);
        none.cite(0, 0, 0, 0);
        dueAbout("one step", none, 0, 0, 2, 1);
        dueAbout("one step", none, 0, 0, 3, 0);
    }

    private void aboutIndex() {
        LodgeProofs none = new LodgeProofs();
        check.refused("in an empty lodge", none, Check.INDEX, () -> none.about(0, 0, 0));
        LodgeProofs x = Lodges.of(2, 2);
        x.lemma();
        check.refused("lemma -1", x, Check.INDEX, () -> x.about(-1, 0, 0));
        check.refused("lemma 3 of 3", x, Check.INDEX, () -> x.about(3, 0, 0));
        check.refused("proof -1", x, Check.INDEX, () -> x.about(0, -1, 0));
        check.refused("proof 2 of 2", x, Check.INDEX, () -> x.about(0, 2, 0));
        check.refused("proof 0 of none", x, Check.INDEX, () -> x.about(2, 0, 0));
        check.refused("what -1", x, Check.INDEX, () -> x.about(0, 0, -1));
        check.refused("what 4", x, Check.INDEX, () -> x.about(0, 0, 4));
        for (int far : FAR) {
            check.refused("lemma " + far, x, Check.INDEX, () -> x.about(far, 0, 0));
            check.refused("proof " + far, x, Check.INDEX, () -> x.about(0, far, 0));
            check.refused("what " + far, x, Check.INDEX, () -> x.about(0, 0, far));
        }
        dueAbout("the last proof there is", x, 1, 1, 0, 0);
        dueAbout("the last what", x, 1, 1, 3, -1);
        LodgeProofs full = Lodges.full();
        check.refused("proof 3 of a full one", full, Check.INDEX, () -> full.about(11, 3, 0));
    }

    private void countLemmas() {
        LodgeProofs x = new LodgeProofs();
        dueCount("empty", x, 0, 0);
        dueCount("empty", x, 1, 0);
        x.lemma();
        dueCount("one without proofs", x, 0, 1);
        dueCount("one without proofs", x, 1, 0);
        LodgeProofs full = Lodges.full();
        dueCount("full", full, 0, 12);
        dueCount("full", full, 1, 12);
        full.take(0, false);
        dueCount("full, without axiom 0", full, 0, 12);
        dueCount("full, without axiom 0", full, 1, 0);
    }

    private void countAxioms() {
        LodgeProofs x = new LodgeProofs();
        dueCount("at first", x, 2, 5);
        for (int axiom = 0; axiom < 5; axiom++) {
            x.take(axiom, false);
            dueCount("up to " + axiom, x, 2, 4 - axiom);
        }
        x.take(4, true);
        dueCount("the last one again", x, 2, 1);
    }

    private void countSteps() {
        LodgeProofs x = Lodges.of(1, 0);
        dueCount("empty", x, 3, 0);
        dueCount("empty", x, 4, 0);
        x.proof(0);
        dueCount("an empty proof", x, 3, 1);
        dueCount("an empty proof", x, 4, 0);
        LodgeProofs full = Lodges.full();
        dueCount("full", full, 3, 36);
        dueCount("full", full, 4, 180);
        full.withdraw(11, 2, 4);
        dueCount("withdrawn, too", full, 4, 180);
        full.strike(11, 2);
        dueCount("struck", full, 3, 35);
        dueCount("struck", full, 4, 175);
    }

    private void countOpen() {
        LodgeProofs x = Lodges.of(12, 3);
        dueCount("empty", x, 5, 0);
        for (int lemma = 0; lemma < 12; lemma++) {
            for (int proof = 0; proof < 3; proof++) {
                Lodges.cite(x, lemma, proof, 2, 9, 9, 9, 9, 9);
            }
        }
        dueCount("full of gaps", x, 5, 1620);
        x.withdraw(11, 2, 4);
        dueCount("withdrawn, too", x, 5, 1620);
        x.patch(11, 2, 4, 9);
        dueCount("one closed", x, 5, 1611);
        x.strike(0, 0);
        dueCount("a proof struck", x, 5, 1566);
        dueCount("full of axioms", Lodges.full(), 5, 0);
    }

    private void countCircles() {
        LodgeProofs x = Lodges.of(12, 1);
        dueCount("empty", x, 6, 0);
        x.cite(11, 0, 1, 11);
        dueCount("the last one by itself", x, 6, 1);
        for (int lemma = 0; lemma < 11; lemma++) {
            x.cite(lemma, 0, 1, lemma + 1);
        }
        dueCount("all lead to it", x, 6, 1);
        x.cite(11, 0, 1, 0);
        dueCount("all are in one", x, 6, 12);
    }

    private void countIndex() {
        LodgeProofs x = Lodges.withGap(9);
        check.refused("what -1", x, Check.INDEX, () -> x.count(-1));
        check.refused("what 7", x, Check.INDEX, () -> x.count(7));
        for (int far : FAR) {
            check.refused("what " + far, x, Check.INDEX, () -> x.count(far));
        }
        dueCount("the first what", x, 0, 1);
        dueCount("the last what", x, 6, 0);
    }

    private void best() {
        LodgeProofs x = Lodges.of(12, 0);
        check.due("no proof", -1, () -> x.best(11));
        x.proof(11);
        check.due("an empty proof", -1, () -> x.best(11));
        x.proof(11);
        x.proof(11);
        Lodges.cite(x, 11, 2, 0, 0, 0);
        check.due("the last one alone", 2, () -> x.best(11));
        Lodges.cite(x, 11, 1, 0, 1, 1);
        check.due("the smaller of two", 1, () -> x.best(11));
        Lodges.cite(x, 11, 0, 0, 2, 2);
        check.due("the smallest of three", 0, () -> x.best(11));
        x.cite(11, 0, 0, 2);
        check.due("the first one is longer", 1, () -> x.best(11));
        x.withdraw(11, 1, 0);
        check.due("the second one is not whole", 2, () -> x.best(11));
        x.take(0, false);
        check.due("the third one has none", 0, () -> x.best(11));
        x.take(2, false);
        check.due("none has one", -1, () -> x.best(11));
        LodgeProofs longOnes = Lodges.longOnes();
        check.due("9998", 0, () -> longOnes.best(11));
        longOnes.cite(11, 0, 0, 0);
        check.due("9999", -1, () -> longOnes.best(11));
    }

    private void bestIndex() {
        LodgeProofs none = new LodgeProofs();
        check.refused("in an empty lodge", none, Check.INDEX, () -> none.best(0));
        LodgeProofs x = Lodges.of(11, 1);
        check.refused("lemma -1", x, Check.INDEX, () -> x.best(-1));
        check.refused("lemma 11 of 11", x, Check.INDEX, () -> x.best(11));
        for (int far : FAR) {
            check.refused("lemma " + far, x, Check.INDEX, () -> x.best(far));
        }
        check.due("the last lemma there is", -1, () -> x.best(10));
        LodgeProofs full = Lodges.full();
        check.due("the last one of a full lodge", 0, () -> full.best(11));
        check.refused("lemma 12", full, Check.INDEX, () -> full.best(12));
    }
}
