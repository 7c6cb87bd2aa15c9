/** The edges that the section 'Terms' names, and the bound on calls of 'What it is'. */
final class EdgesOfTerms {
    private static final String TERMS = "Terms";

    private final Check check;

    EdgesOfTerms(Check check) {
        this.check = check;
    }

    void run(Edges edges) {
        edges.of("What it is", "An object is used for at most 512 calls after it has been made",
                this::all512Calls);
        edges.of(TERMS, "There are 5, 0 to 4; each is taken (at first), or not.", this::axioms);
        edges.of(TERMS, "At most 12, numbered from 0.", this::lemmas);
        edges.of(TERMS, "Each has at most 3 proofs, numbered from 0 in a row", this::proofs);
        edges.of(TERMS, "each of these has at most 5 steps, at places from 0.", this::steps);
        edges.of(TERMS, "A step cites an axiom (kind 0), a lemma (kind 1; also the one that is to"
                + " be proved), or has a gap (kind 2) of a size, 1 to 9, of which something is"
                + " open, all at first; it can be withdrawn.", this::kinds);
        edges.of(TERMS, "A proof is whole, if it has a step at least, and none that is withdrawn.",
                this::whole);
        proving(edges);
        lengths(edges);
        prices(edges);
        edges.of(TERMS, "A lemma leads to another one by a cite, if any step of any proof of it"
                + " (whole or not, withdrawn or not) cites that one.", this::leads);
        edges.of(TERMS, "A lemma is in a circle, if cites lead from it to itself.", this::circles);
        edges.of(TERMS, "A method that throws an exception changes nothing.", this::throwsAll);
        edges.of(TERMS, "If several exceptions apply, the one that is named first is thrown.",
                this::firstNamed);
    }

    private void proving(Edges edges) {
        edges.of(TERMS, "It holds, if it is whole, and all that it cites does: axioms that are"
                + " taken, lemmas that are proved, gaps of which nothing is open.", this::holds);
        edges.of(TERMS, "at the stage 1 those with a proof that holds without any lemma being"
                + " proved", this::firstStage);
        edges.of(TERMS, "at each next stage those, not proved ahead of it, with a proof that holds"
                + " by lemmas that were proved at stages ahead of it; and so on, till none comes at"
                + " a stage.", this::nextStages);
        edges.of(TERMS, "All others are not proved.", this::notProved);
    }

    private void lengths(Edges edges) {
        edges.of(TERMS, "The length of a proof that is whole: its steps, and for each step that"
                + " cites a lemma the length of that lemma, added (if several cite the same one,"
                + " each time)", this::lengthOfProof);
        edges.of(TERMS, "none, if it cites an axiom that is not taken, a gap of which something is"
                + " open, or a lemma without a length.", this::proofWithoutLength);
        edges.of(TERMS, "The length of a lemma: the least one of its proofs; none without one.",
                this::lengthOfLemma);
        edges.of(TERMS, "(What leads to itself alone has none.)", this::lengthOfCircle);
        edges.of(TERMS, "What would be 9999 or more counts as none.", this::lengthOf9999);
    }

    private void prices(Edges edges) {
        edges.of(TERMS, "The price of a proof that is whole (also if it does not hold for open"
                + " gaps): what is open of its gaps, and the prices of lemmas that it cites, added"
                + " likewise", this::priceOfProof);
        edges.of(TERMS, "none, if it cites an axiom that is not taken, or a lemma without a price,"
                + " or if it would be 9999 or more.", this::proofWithoutPrice);
        edges.of(TERMS, "or if it would be 9999 or more.", this::proofOfPrice9999);
        edges.of(TERMS, "The price of a lemma: the least one of its proofs; none without one, or if"
                + " it would be 9999 or more.", this::priceOfLemma);
        edges.of(TERMS, "none without one, or if it would be 9999 or more.",
                this::lemmaOfPrice9999);
        edges.of(TERMS, "(So the price is 0, if nothing has to be patched.)", this::priceOf0);
    }

    private void dueLength(String when, LodgeProofs x, int lemma, int length) {
        check.due(when + ": told(" + lemma + ", 3)", length, () -> x.told(lemma, 3));
    }

    private void duePrice(String when, LodgeProofs x, int lemma, int price) {
        check.due(when + ": told(" + lemma + ", 4)", price, () -> x.told(lemma, 4));
    }

    private void dueStage(String when, LodgeProofs x, int lemma, int stage) {
        check.due(when + ": told(" + lemma + ", 2)", stage, () -> x.told(lemma, 2));
    }

    private void dueHolds(String when, LodgeProofs x, int lemma, int proof, int holds) {
        check.due(when + ": about(" + lemma + ", " + proof + ", 1)", holds,
                () -> x.about(lemma, proof, 1));
    }

    private void dueCircle(String when, LodgeProofs x, int lemma, int cites) {
        check.due(when + ": told(" + lemma + ", 6)", cites, () -> x.told(lemma, 6));
    }

    /** 228 calls make it full; 283 more withdraw a step and put it back, and the last one asks. */
    private void all512Calls() {
        LodgeProofs x = Lodges.full();
        LodgeProofs y = Lodges.full();
        for (int call = 229; call < 512; call++) {
            check.due("call " + call, call % 2 == 1, () -> x.withdraw(11, 2, 4));
        }
        y.withdraw(11, 2, 4);
        check.due("call 512", y.digest(), x::digest);
    }

    private void axioms() {
        LodgeProofs x = new LodgeProofs();
        check.due("all are taken at first", 5, () -> x.count(2));
        check.due("the first one is", true, () -> x.take(0, false));
        check.due("the last one is", true, () -> x.take(4, false));
        check.due("the first one is not, then", false, () -> x.take(0, false));
        check.due("the last one is not, then", false, () -> x.take(4, false));
        check.due("three are, then", 3, () -> x.count(2));
        check.refused("one ahead of the first", x, Check.INDEX, () -> x.take(-1, true));
        check.refused("one behind the last", x, Check.INDEX, () -> x.take(5, true));
    }

    private void lemmas() {
        LodgeProofs x = new LodgeProofs();
        check.due("the first", 0, x::lemma);
        for (int lemma = 1; lemma < 11; lemma++) {
            x.lemma();
        }
        check.due("the twelfth", 11, x::lemma);
        check.refused("one more", x, Check.STATE, x::lemma);
        check.due("the first is there", 0, () -> x.told(0, 0));
        check.due("the twelfth is there", 0, () -> x.told(11, 0));
        check.due("none is at 12", Check.INDEX, () -> x.told(12, 0));
    }

    private void proofs() {
        LodgeProofs x = Lodges.of(12, 3);
        for (int lemma : new int[] {0, 11}) {
            check.due("the first of " + lemma, 0, () -> x.about(lemma, 0, 0));
            check.due("the third of " + lemma, 0, () -> x.about(lemma, 2, 0));
            check.due("none at 3 of " + lemma, Check.INDEX, () -> x.about(lemma, 3, 0));
            check.refused("one more of " + lemma, x, Check.STATE, () -> x.proof(lemma));
        }
        x.strike(11, 0);
        check.due("in a row when one is struck", 0, () -> x.about(11, 1, 0));
        check.due("none is at 2 then", Check.INDEX, () -> x.about(11, 2, 0));
        check.due("there is room again, at the end", 2, () -> x.proof(11));
        check.refused("and none after that", x, Check.STATE, () -> x.proof(11));
    }

    private void steps() {
        LodgeProofs x = Lodges.full();
        for (int lemma : new int[] {0, 11}) {
            for (int proof : new int[] {0, 2}) {
                String of = " of " + lemma + ", " + proof;
                check.due("at 0" + of, 0, () -> x.step(lemma, proof, 0, 1));
                check.due("at 4" + of, 4, () -> x.step(lemma, proof, 4, 1));
                check.due("none at 5" + of, Check.INDEX, () -> x.step(lemma, proof, 5, 0));
                check.refused("one more" + of, x, Check.STATE, () -> x.cite(lemma, proof, 0, 0));
            }
        }
        x.withdraw(11, 2, 4);
        check.refused("a withdrawn one takes its room", x, Check.STATE, () -> x.cite(11, 2, 0, 0));
    }

    private void kinds() {
        LodgeProofs x = Lodges.of(12, 1);
        check.due("the last axiom", 1, () -> x.cite(11, 0, 0, 4));
        check.due("the lemma itself", 2, () -> x.cite(11, 0, 1, 11));
        check.due("the first lemma", 3, () -> x.cite(11, 0, 1, 0));
        check.due("the least gap", 4, () -> x.cite(11, 0, 2, 1));
        check.due("the largest gap", 5, () -> x.cite(11, 0, 2, 9));
        int[][] steps = {{0, 4, 0, 0}, {1, 11, 0, 0}, {1, 0, 0, 0}, {2, 1, 1, 0}, {2, 9, 9, 0}};
        for (int place = 0; place < 5; place++) {
            for (int what = 0; what < 4; what++) {
                int at = place;
                int asked = what;
                check.due("step(11, 0, " + at + ", " + asked + ")", steps[place][what],
                        () -> x.step(11, 0, at, asked));
            }
            int at = place;
            check.due("it can be withdrawn: " + at, true, () -> x.withdraw(11, 0, at));
        }
        check.refused("a kind below 0", x, Check.INDEX, () -> x.cite(0, 0, -1, 1));
        check.refused("a kind above 2", x, Check.INDEX, () -> x.cite(0, 0, 3, 1));
        check.refused("a gap of 0", x, Check.ARGUMENT, () -> x.cite(0, 0, 2, 0));
        check.refused("a gap of 10", x, Check.ARGUMENT, () -> x.cite(0, 0, 2, 10));
    }

    private void whole() {
        LodgeProofs x = Lodges.of(1, 1);
        dueHolds("no step", x, 0, 0, 0);
        dueStage("no step", x, 0, 0);
        dueLength("no step", x, 0, -1);
        duePrice("no step", x, 0, -1);
        x.cite(0, 0, 0, 0);
        dueHolds("one step", x, 0, 0, 1);
        dueLength("one step", x, 0, 1);
        duePrice("one step", x, 0, 0);
        Lodges.cite(x, 0, 0, 0, 0, 0, 0, 0);
        for (int place = 0; place < 5; place++) {
            x.withdraw(0, 0, place);
            String when = "all but the step " + place;
            dueHolds(when, x, 0, 0, 0);
            dueStage(when, x, 0, 0);
            dueLength(when, x, 0, -1);
            duePrice(when, x, 0, -1);
            x.withdraw(0, 0, place);
            dueHolds("all again", x, 0, 0, 1);
        }
    }

    private void holds() {
        LodgeProofs x = Lodges.of(2, 1);
        Lodges.cite(x, 0, 0, 0, 0, 4);
        x.cite(0, 0, 2, 2);
        x.cite(0, 0, 1, 1);
        x.cite(1, 0, 0, 1);
        dueHolds("all of the gap is open", x, 0, 0, 0);
        x.patch(0, 0, 2, 1);
        dueHolds("1 is open", x, 0, 0, 0);
        x.patch(0, 0, 2, 1);
        dueHolds("nothing is open", x, 0, 0, 1);
        for (int axiom : new int[] {0, 4}) {
            x.take(axiom, false);
            dueHolds("without axiom " + axiom, x, 0, 0, 0);
            x.take(axiom, true);
            dueHolds("with axiom " + axiom, x, 0, 0, 1);
        }
        x.take(3, false);
        dueHolds("without an axiom that it does not cite", x, 0, 0, 1);
        x.take(1, false);
        dueHolds("the lemma is not proved", x, 0, 0, 0);
    }

    private void firstStage() {
        LodgeProofs x = Lodges.of(12, 1);
        x.cite(11, 0, 0, 0);
        x.cite(0, 0, 1, 11);
        x.proof(0);
        x.cite(0, 1, 2, 1);
        dueStage("an axiom alone", x, 11, 1);
        dueStage("a lemma, or an open gap", x, 0, 2);
        x.patch(0, 1, 0, 1);
        dueStage("a closed gap alone", x, 0, 1);
        x.cite(0, 1, 1, 11);
        dueStage("a closed gap, and a lemma", x, 0, 2);
    }

    private void nextStages() {
        LodgeProofs x = Lodges.of(12, 1);
        x.cite(11, 0, 0, 0);
        for (int lemma = 10; lemma >= 0; lemma--) {
            x.cite(lemma, 0, 1, lemma + 1);
        }
        dueStage("the first of all", x, 11, 1);
        dueStage("one between", x, 5, 7);
        dueStage("the last of all", x, 0, 12);
        x.cite(5, 0, 1, 11);
        dueStage("the later one of two counts", x, 5, 7);
        x.proof(5);
        x.cite(5, 1, 1, 11);
        dueStage("the earlier one of two proofs counts", x, 5, 2);
        dueStage("and moves those behind it", x, 0, 7);
        x.proof(11);
        x.cite(11, 1, 1, 0);
        dueStage("once proved, it stays at its stage", x, 11, 1);
    }

    private void notProved() {
        LodgeProofs x = Lodges.of(12, 1);
        for (int lemma = 0; lemma < 12; lemma++) {
            x.cite(lemma, 0, 1, (lemma + 1) % 12);
        }
        check.due("none of a circle of all", 0, () -> x.count(1));
        dueStage("the first", x, 0, 0);
        dueStage("the last", x, 11, 0);
        x.proof(11);
        x.cite(11, 1, 0, 0);
        check.due("all of it, once one is", 12, () -> x.count(1));
        x.withdraw(11, 0, 0);
        x.withdraw(0, 0, 0);
        check.due("all but one whose step is withdrawn", 11, () -> x.count(1));
        dueStage("that one", x, 0, 0);
    }

    private void lengthOfProof() {
        LodgeProofs x = Lodges.of(2, 1);
        Lodges.cite(x, 0, 0, 0, 0, 0, 0, 0, 0);
        dueLength("five steps", x, 0, 5);
        x.cite(1, 0, 1, 0);
        dueLength("one cite", x, 1, 6);
        Lodges.cite(x, 1, 0, 1, 0, 0, 0, 0);
        dueLength("five cites of the same one", x, 1, 30);
        check.due("about(1, 0, 2)", 30, () -> x.about(1, 0, 2));
        x.withdraw(1, 0, 4);
        dueLength("not whole", x, 1, -1);
        check.due("not whole: about(1, 0, 2)", -1, () -> x.about(1, 0, 2));
    }

    private void proofWithoutLength() {
        LodgeProofs x = Lodges.of(2, 1);
        x.cite(0, 0, 0, 4);
        x.cite(0, 0, 2, 2);
        x.cite(0, 0, 1, 1);
        x.cite(1, 0, 0, 0);
        dueLength("all of a gap is open", x, 0, -1);
        x.patch(0, 0, 1, 1);
        dueLength("1 of it is open", x, 0, -1);
        x.patch(0, 0, 1, 1);
        dueLength("nothing of it is open", x, 0, 4);
        x.take(4, false);
        dueLength("an axiom is not taken", x, 0, -1);
        x.take(4, true);
        x.take(0, false);
        dueLength("a lemma has none", x, 0, -1);
        x.take(0, true);
        dueLength("all of them have one", x, 0, 4);
    }

    private void lengthOfLemma() {
        LodgeProofs x = Lodges.of(1, 0);
        dueLength("no proof", x, 0, -1);
        for (int proof = 0; proof < 3; proof++) {
            x.proof(0);
            dueLength("proofs without a length", x, 0, -1);
        }
        x.cite(0, 2, 0, 0);
        x.cite(0, 2, 0, 0);
        x.cite(0, 2, 0, 0);
        dueLength("the last proof alone has one", x, 0, 3);
        x.cite(0, 0, 0, 1);
        dueLength("the first one is less", x, 0, 1);
        x.take(1, false);
        x.cite(0, 1, 0, 0);
        x.cite(0, 1, 0, 0);
        dueLength("the middle one is the least", x, 0, 2);
    }

    private void lengthOfCircle() {
        LodgeProofs x = Lodges.of(12, 1);
        for (int lemma = 0; lemma < 12; lemma++) {
            x.cite(lemma, 0, 1, (lemma + 1) % 12);
        }
        dueLength("all lead to themselves", x, 0, -1);
        duePrice("all lead to themselves", x, 0, -1);
        x.proof(11);
        x.cite(11, 1, 1, 11);
        dueLength("by one cite, too", x, 11, -1);
        duePrice("by one cite, too", x, 11, -1);
        x.cite(11, 1, 0, 0);
        dueLength("by one cite, with an axiom", x, 11, -1);
        duePrice("by one cite, with an axiom", x, 11, -1);
        x.proof(11);
        x.cite(11, 2, 0, 0);
        dueLength("to an axiom, too", x, 11, 1);
        dueLength("the farthest one then", x, 0, 12);
        check.due("the way round: about(11, 0, 2)", 13, () -> x.about(11, 0, 2));
        check.due("the cite of itself: about(11, 1, 2)", 3, () -> x.about(11, 1, 2));
    }

    private void lengthOf9999() {
        LodgeProofs x = Lodges.longOnes();
        dueLength("9996", x, 9, 9996);
        dueLength("9998 behind it", x, 11, 9998);
        x.cite(9, 0, 0, 0);
        dueLength("9997", x, 9, 9997);
        dueLength("9998 behind it", x, 10, 9998);
        dueLength("9999 behind that", x, 11, -1);
        x.cite(9, 0, 0, 0);
        dueLength("9998", x, 9, 9998);
        dueLength("9999 behind it", x, 10, -1);
        dueLength("a lemma without a length behind that", x, 11, -1);
        check.due("9998: about(9, 0, 2)", 9998, () -> x.about(9, 0, 2));
        check.due("9999: about(10, 0, 2)", -1, () -> x.about(10, 0, 2));
        x.cite(9, 0, 0, 0);
        dueLength("9999", x, 9, -1);
        check.due("9999: about(9, 0, 2)", -1, () -> x.about(9, 0, 2));
        x.cite(9, 0, 0, 0);
        dueLength("10000", x, 9, -1);
        dueStage("it is proved for all that", x, 9, 10);
        x.proof(9);
        Lodges.cite(x, 9, 1, 0, 0, 0);
        dueLength("another proof has one", x, 9, 2);
        Lodges.cite(x, 10, 0, 1, 8, 8, 8, 8);
        dueLength("40000 and more", x, 10, -1);
    }

    private void priceOfProof() {
        LodgeProofs x = Lodges.of(2, 1);
        Lodges.cite(x, 0, 0, 2, 9, 9, 9, 9, 9);
        duePrice("five gaps", x, 0, 45);
        dueHolds("five gaps", x, 0, 0, 0);
        x.patch(0, 0, 4, 8);
        duePrice("1 of the last is open", x, 0, 37);
        x.cite(1, 0, 1, 0);
        duePrice("one cite", x, 1, 37);
        Lodges.cite(x, 1, 0, 1, 0, 0, 0, 0);
        duePrice("five cites of the same one", x, 1, 185);
        check.due("about(1, 0, 3)", 185, () -> x.about(1, 0, 3));
        x.withdraw(1, 0, 0);
        duePrice("not whole", x, 1, -1);
        check.due("not whole: about(1, 0, 3)", -1, () -> x.about(1, 0, 3));
        x.withdraw(0, 0, 0);
        duePrice("a withdrawn gap", x, 0, -1);
    }

    private void proofWithoutPrice() {
        LodgeProofs x = Lodges.of(2, 1);
        x.cite(0, 0, 2, 9);
        x.cite(0, 0, 0, 4);
        x.cite(0, 0, 1, 1);
        duePrice("a lemma has none", x, 0, -1);
        check.due("a lemma has none: about(0, 0, 3)", -1, () -> x.about(0, 0, 3));
        x.cite(1, 0, 0, 0);
        duePrice("all of them have one", x, 0, 9);
        x.take(4, false);
        duePrice("an axiom is not taken", x, 0, -1);
        check.due("an axiom is not taken: about(0, 0, 3)", -1, () -> x.about(0, 0, 3));
        x.take(4, true);
        x.take(0, false);
        duePrice("a lemma has none again", x, 0, -1);
    }

    private void proofOfPrice9999() {
        LodgeProofs x = Lodges.dearOnes();
        x.cite(7, 0, 2, 8);
        check.due("9998: about(7, 0, 3)", 9998, () -> x.about(7, 0, 3));
        x.cite(7, 0, 2, 1);
        check.due("9999: about(7, 0, 3)", -1, () -> x.about(7, 0, 3));
        x.cite(7, 0, 2, 1);
        check.due("10000: about(7, 0, 3)", -1, () -> x.about(7, 0, 3));
        x.patch(7, 0, 3, 1);
        check.due("9999 again: about(7, 0, 3)", -1, () -> x.about(7, 0, 3));
        x.patch(7, 0, 4, 1);
        check.due("9998 again: about(7, 0, 3)", 9998, () -> x.about(7, 0, 3));
    }

    private void priceOfLemma() {
        LodgeProofs x = Lodges.of(1, 0);
        duePrice("no proof", x, 0, -1);
        for (int proof = 0; proof < 3; proof++) {
            x.proof(0);
            duePrice("proofs without a price", x, 0, -1);
        }
        x.cite(0, 2, 2, 9);
        duePrice("the last proof alone has one", x, 0, 9);
        x.cite(0, 0, 2, 7);
        duePrice("the first one is less", x, 0, 7);
        x.cite(0, 1, 2, 8);
        x.patch(0, 1, 0, 7);
        duePrice("the middle one is the least", x, 0, 1);
        x.patch(0, 1, 0, 1);
        duePrice("nothing is open there", x, 0, 0);
    }

    private void lemmaOfPrice9999() {
        LodgeProofs x = Lodges.dearOnes();
        duePrice("9990", x, 7, 9990);
        x.cite(7, 0, 2, 8);
        duePrice("9998", x, 7, 9998);
        duePrice("9998 behind it", x, 8, 9998);
        x.cite(8, 0, 2, 1);
        duePrice("9999 behind it", x, 8, -1);
        duePrice("a lemma without a price behind that", x, 9, -1);
        x.patch(8, 0, 1, 1);
        duePrice("9998 behind that", x, 9, 9998);
        x.cite(7, 0, 2, 1);
        duePrice("9999", x, 7, -1);
        x.cite(7, 0, 2, 9);
        duePrice("10008", x, 7, -1);
        x.proof(7);
        x.cite(7, 1, 0, 0);
        duePrice("another proof has one", x, 7, 0);
        Lodges.cite(x, 9, 0, 1, 6, 6, 6, 6);
        duePrice("39780", x, 9, -1);
    }

    private void priceOf0() {
        LodgeProofs x = Lodges.longOnes();
        duePrice("axioms and lemmas alone", x, 11, 0);
        Lodges.cite(x, 9, 0, 0, 0, 0, 0);
        dueLength("no length", x, 9, -1);
        duePrice("though it has no length", x, 9, 0);
        x.cite(9, 0, 2, 1);
        duePrice("1 has to be patched", x, 9, 1);
        x.patch(9, 0, 4, 1);
        duePrice("it is patched", x, 9, 0);
        check.due("about(9, 0, 3)", 0, () -> x.about(9, 0, 3));
    }

    private void leads() {
        LodgeProofs x = Lodges.of(12, 3);
        Lodges.cite(x, 0, 2, 0, 4, 4, 4, 4);
        x.cite(0, 2, 1, 11);
        x.cite(11, 2, 1, 0);
        dueCircle("the last step of the last proof", x, 0, 2);
        x.withdraw(0, 2, 4);
        dueCircle("withdrawn", x, 0, 2);
        x.take(4, false);
        x.cite(11, 2, 2, 9);
        dueCircle("neither whole nor holding", x, 11, 2);
        x.strike(11, 2);
        dueCircle("struck", x, 0, 0);
        x.cite(4, 0, 0, 4);
        dueCircle("an axiom is no lemma", x, 4, 0);
        x.cite(5, 0, 2, 5);
        dueCircle("a gap is no lemma", x, 5, 0);
    }

    private void circles() {
        LodgeProofs x = Lodges.of(12, 2);
        for (int lemma = 0; lemma < 11; lemma++) {
            x.cite(lemma, 0, 1, lemma + 1);
        }
        dueCircle("a row from end to end", x, 0, 0);
        check.due("none is in a circle", 0, () -> x.count(6));
        x.cite(11, 0, 1, 1);
        dueCircle("cites lead from it to a circle", x, 0, 0);
        dueCircle("in it", x, 11, 11);
        check.due("eleven are in it", 11, () -> x.count(6));
        x.cite(11, 1, 1, 0);
        dueCircle("all are in it", x, 0, 12);
        check.due("all are in it", 12, () -> x.count(6));
        x.cite(0, 1, 1, 0);
        dueCircle("by one cite", x, 0, 1);
    }

    private void throwsAll() {
        LodgeProofs x = Lodges.full();
        check.refused("take", x, Check.INDEX, () -> x.take(5, false));
        check.refused("lemma", x, Check.STATE, x::lemma);
        check.refused("proof", x, Check.STATE, () -> x.proof(11));
        check.refused("cite", x, Check.STATE, () -> x.cite(11, 2, 2, 9));
        check.refused("patch", x, Check.STATE, () -> x.patch(11, 2, 4, 9));
        check.refused("withdraw", x, Check.INDEX, () -> x.withdraw(11, 2, 5));
        check.refused("strike", x, Check.INDEX, () -> x.strike(11, 3));
        check.refused("told", x, Check.INDEX, () -> x.told(11, 7));
        check.refused("step", x, Check.INDEX, () -> x.step(11, 2, 4, 4));
        check.refused("about", x, Check.INDEX, () -> x.about(11, 2, 4));
        check.refused("count", x, Check.INDEX, () -> x.count(7));
        check.refused("best", x, Check.INDEX, () -> x.best(12));
        check.refused("without", x, Check.INDEX, () -> x.without(12));
        check.refused("needs", x, Check.INDEX, () -> x.needs(11, 5));
        check.due("after all of these", Lodges.full().digest(), x::digest);
    }

    private void firstNamed() {
        LodgeProofs x = Lodges.full();
        check.refused("no lemma, of gap 0", x, Check.INDEX, () -> x.cite(12, 0, 2, 0));
        check.refused("no proof, of gap 10", x, Check.INDEX, () -> x.cite(0, 3, 2, 10));
        check.refused("no axiom, though full", x, Check.INDEX, () -> x.cite(0, 0, 0, 5));
        check.refused("no lemma to cite, though full", x, Check.INDEX, () -> x.cite(0, 0, 1, 12));
        check.refused("no kind, though full", x, Check.INDEX, () -> x.cite(0, 0, 3, 0));
        check.refused("a gap of 0, though full", x, Check.ARGUMENT, () -> x.cite(0, 0, 2, 0));
        check.refused("a gap of 10, though full", x, Check.ARGUMENT, () -> x.cite(0, 0, 2, 10));
        check.refused("no lemma, by 0", x, Check.INDEX, () -> x.patch(12, 0, 0, 0));
        check.refused("no proof, by 10", x, Check.INDEX, () -> x.patch(0, 3, 0, 10));
        check.refused("no step, by 0", x, Check.INDEX, () -> x.patch(0, 0, 5, 0));
        check.refused("no gap, by 0", x, Check.ARGUMENT, () -> x.patch(0, 0, 0, 0));
        check.refused("no gap, by 10", x, Check.ARGUMENT, () -> x.patch(0, 0, 0, 10));
        check.refused("no lemma, though none has room", x, Check.INDEX, () -> x.proof(12));
    }
}
