/** Promises 1 to 8: the lodge. */
public final class TheLodgeTest {
    private static final int[] OUTSIDE = {Integer.MIN_VALUE, -1, Integer.MAX_VALUE};

    private static final Check check = new Check();

    public static void main(String[] args) {
        newObject();
        take();
        lemma();
        proof();
        cite();
        citeRefused();
        patch();
        patchRefused();
        withdraw();
        strike();
        struckIsForgotten();
        fullLodge();
        strikeRefused();
        check.end("TheLodgeTest");
    }

    private static void newObject() {
        LodgeProofs x = new LodgeProofs();
        int[] counts = {0, 0, 5, 0, 0, 0, 0};
        for (int what = 0; what < counts.length; what++) {
            int asked = what;
            check.due("new: count(" + what + ")", counts[what], () -> x.count(asked));
        }
        check.due("new: told(0, 0)", Check.INDEX, () -> x.told(0, 0));
        check.due("new: mean()", 0.0, x::mean);
        check.due("new: advise()", -1, x::advise);
        long d = 1847;
        for (int number : new int[] {0, 0, 5, 0, 0, 0, 0, 1, 1, 1, 1, 1}) {
            d = d * 31 + number;
        }
        check.due("new: digest()", d, x::digest);
        x.lemma();
        x.take(0, false);
        check.due("another new: count(0)", 0, () -> new LodgeProofs().count(0));
        check.due("another new: count(2)", 5, () -> new LodgeProofs().count(2));
    }

    private static void take() {
        LodgeProofs x = new LodgeProofs();
        x.lemma();
        x.proof(0);
        x.cite(0, 0, 0, 4);
        for (int axiom = 0; axiom < 5; axiom++) {
            int asked = axiom;
            check.due("take(" + axiom + ", true)", true, () -> x.take(asked, true));
            check.due("take(" + axiom + ", false)", true, () -> x.take(asked, false));
            check.due("take(" + axiom + ", false) again", false, () -> x.take(asked, false));
            check.due("count(2)", 4 - axiom, () -> x.count(2));
        }
        check.due("told(0, 2) without axiom 4", 0, () -> x.told(0, 2));
        check.due("take(4, true)", false, () -> x.take(4, true));
        check.due("told(0, 2) with axiom 4", 1, () -> x.told(0, 2));
        check.refused("take(5, true)", x, Check.INDEX, () -> x.take(5, true));
        for (int axiom : OUTSIDE) {
            check.refused("take(" + axiom + ", false)", x, Check.INDEX, () -> x.take(axiom, false));
        }
    }

    private static void lemma() {
        LodgeProofs x = new LodgeProofs();
        for (int number = 0; number < 12; number++) {
            int asked = number;
            check.due("lemma()", number, x::lemma);
            check.due("count(0)", number + 1, () -> x.count(0));
            check.due("told(" + number + ", 0)", 0, () -> x.told(asked, 0));
            check.due("told(" + number + ", 3)", -1, () -> x.told(asked, 3));
        }
        check.refused("the 13th lemma()", x, Check.STATE, x::lemma);
        check.due("count(0)", 12, () -> x.count(0));
    }

    private static void proof() {
        LodgeProofs x = new LodgeProofs();
        check.refused("proof(0) without lemmas", x, Check.INDEX, () -> x.proof(0));
        x.lemma();
        x.lemma();
        for (int number = 0; number < 3; number++) {
            int asked = number;
            check.due("proof(1)", number, () -> x.proof(1));
            check.due("told(1, 0)", number + 1, () -> x.told(1, 0));
            check.due("about(1, " + number + ", 0)", 0, () -> x.about(1, asked, 0));
        }
        check.refused("the 4th proof(1)", x, Check.STATE, () -> x.proof(1));
        check.due("told(0, 0)", 0, () -> x.told(0, 0));
        check.due("proof(0)", 0, () -> x.proof(0));
        check.refused("proof(2)", x, Check.INDEX, () -> x.proof(2));
        for (int lemma : OUTSIDE) {
            check.refused("proof(" + lemma + ")", x, Check.INDEX, () -> x.proof(lemma));
        }
    }

    private static void cite() {
        LodgeProofs x = new LodgeProofs();
        x.lemma();
        x.lemma();
        x.proof(1);
        x.proof(1);
        check.due("cite an axiom", 1, () -> x.cite(1, 1, 0, 4));
        check.due("cite a lemma", 2, () -> x.cite(1, 1, 1, 0));
        check.due("cite the lemma itself", 3, () -> x.cite(1, 1, 1, 1));
        check.due("cite the least gap", 4, () -> x.cite(1, 1, 2, 1));
        check.due("cite the largest gap", 5, () -> x.cite(1, 1, 2, 9));
        int[][] steps = {{0, 4, 0, 0}, {1, 0, 0, 0}, {1, 1, 0, 0}, {2, 1, 1, 0}, {2, 9, 9, 0}};
        for (int place = 0; place < steps.length; place++) {
            for (int what = 0; what < 4; what++) {
                int there = place;
                int asked = what;
                check.due("step(1, 1, " + place + ", " + what + ")", steps[place][what],
                        () -> x.step(1, 1, there, asked));
            }
        }
        check.due("the other proof's steps", 0, () -> x.about(1, 0, 0));
        check.refused("a 6th cite of an axiom", x, Check.STATE, () -> x.cite(1, 1, 0, 0));
        check.refused("a 6th cite of a lemma", x, Check.STATE, () -> x.cite(1, 1, 1, 0));
        check.refused("a 6th cite of a gap", x, Check.STATE, () -> x.cite(1, 1, 2, 5));
        check.refused("a 6th cite of a gap of 0", x, Check.ARGUMENT, () -> x.cite(1, 1, 2, 0));
        check.refused("a 6th cite of kind 3", x, Check.INDEX, () -> x.cite(1, 1, 3, 0));
        check.refused("a 6th cite of axiom 5", x, Check.INDEX, () -> x.cite(1, 1, 0, 5));
        check.refused("a 6th cite of lemma 2", x, Check.INDEX, () -> x.cite(1, 1, 1, 2));
    }

    private static void citeRefused() {
        LodgeProofs x = new LodgeProofs();
        x.lemma();
        x.lemma();
        x.proof(0);
        check.refused("cite(2, 0, 0, 0)", x, Check.INDEX, () -> x.cite(2, 0, 0, 0));
        check.refused("cite(0, 1, 0, 0)", x, Check.INDEX, () -> x.cite(0, 1, 0, 0));
        check.refused("cite(1, 0, 0, 0)", x, Check.INDEX, () -> x.cite(1, 0, 0, 0));
        check.refused("cite(0, 0, 3, 1)", x, Check.INDEX, () -> x.cite(0, 0, 3, 1));
        check.refused("cite(0, 0, 0, 5)", x, Check.INDEX, () -> x.cite(0, 0, 0, 5));
        check.refused("cite(0, 0, 1, 2)", x, Check.INDEX, () -> x.cite(0, 0, 1, 2));
        check.refused("cite(0, 0, 2, 0)", x, Check.ARGUMENT, () -> x.cite(0, 0, 2, 0));
        check.refused("cite(0, 0, 2, 10)", x, Check.ARGUMENT, () -> x.cite(0, 0, 2, 10));
        check.refused("cite(2, 0, 2, 0)", x, Check.INDEX, () -> x.cite(2, 0, 2, 0));
        check.refused("cite(0, 1, 2, 10)", x, Check.INDEX, () -> x.cite(0, 1, 2, 10));
        check.refused("cite(0, 0, 3, 0)", x, Check.INDEX, () -> x.cite(0, 0, 3, 0));
        for (int bad : OUTSIDE) {
            check.refused("cite(" + bad + ", 0, 0, 0)", x, Check.INDEX, () -> x.cite(bad, 0, 0, 0));
            check.refused("cite(0, " + bad + ", 0, 0)", x, Check.INDEX, () -> x.cite(0, bad, 0, 0));
            check.refused("cite(0, 0, " + bad + ", 0)", x, Check.INDEX, () -> x.cite(0, 0, bad, 0));
            check.refused("cite(0, 0, 0, " + bad + ")", x, Check.INDEX, () -> x.cite(0, 0, 0, bad));
            check.refused("cite(0, 0, 1, " + bad + ")", x, Check.INDEX, () -> x.cite(0, 0, 1, bad));
            check.refused("cite(0, 0, 2, " + bad + ")", x, Check.ARGUMENT, () -> x.cite(0, 0, 2, bad));
        }
    }

    private static void patch() {
        LodgeProofs x = Lodges.withGap(9);
        check.due("patch by 1", 8, () -> x.patch(0, 0, 1, 1));
        check.due("patch by 3", 5, () -> x.patch(0, 0, 1, 3));
        check.due("step(.., 1) is the size still", 9, () -> x.step(0, 0, 1, 1));
        check.due("step(.., 2) is what is open", 5, () -> x.step(0, 0, 1, 2));
        check.due("not proved yet", 0, () -> x.told(0, 2));
        check.due("patch withdrawn, too", true, () -> x.withdraw(0, 0, 1));
        check.due("patch by 2", 3, () -> x.patch(0, 0, 1, 2));
        x.withdraw(0, 0, 1);
        check.due("patch by more than is open", 0, () -> x.patch(0, 0, 1, 9));
        check.due("proved then", 1, () -> x.told(0, 2));
        LodgeProofs whole = Lodges.withGap(9);
        check.due("patch by all", 0, () -> whole.patch(0, 0, 1, 9));
    }

    private static void patchRefused() {
        LodgeProofs x = Lodges.withGap(4);
        check.refused("patch(1, 0, 0, 1)", x, Check.INDEX, () -> x.patch(1, 0, 0, 1));
        check.refused("patch(0, 1, 0, 1)", x, Check.INDEX, () -> x.patch(0, 1, 0, 1));
        check.refused("patch(0, 0, 2, 1)", x, Check.INDEX, () -> x.patch(0, 0, 2, 1));
        check.refused("patch(0, 0, 2, 0)", x, Check.INDEX, () -> x.patch(0, 0, 2, 0));
        check.refused("patch(0, 0, 1, 0)", x, Check.ARGUMENT, () -> x.patch(0, 0, 1, 0));
        check.refused("patch(0, 0, 1, 10)", x, Check.ARGUMENT, () -> x.patch(0, 0, 1, 10));
        check.refused("patch(0, 0, 0, 10)", x, Check.ARGUMENT, () -> x.patch(0, 0, 0, 10));
        check.refused("patch(0, 0, 0, 1)", x, Check.STATE, () -> x.patch(0, 0, 0, 1));
        for (int bad : OUTSIDE) {
            check.refused("patch(" + bad + ", 0, 1, 1)", x, Check.INDEX, () -> x.patch(bad, 0, 1, 1));
            check.refused("patch(0, " + bad + ", 1, 1)", x, Check.INDEX, () -> x.patch(0, bad, 1, 1));
            check.refused("patch(0, 0, " + bad + ", 1)", x, Check.INDEX, () -> x.patch(0, 0, bad, 1));
            check.refused("patch(0, 0, 1, " + bad + ")", x, Check.ARGUMENT, () -> x.patch(0, 0, 1, bad));
        }
        x.patch(0, 0, 1, 4);
        check.refused("patch what is closed", x, Check.STATE, () -> x.patch(0, 0, 1, 1));
        check.refused("patch what is closed by 0", x, Check.ARGUMENT, () -> x.patch(0, 0, 1, 0));
        x.cite(0, 0, 1, 0);
        check.refused("patch a lemma", x, Check.STATE, () -> x.patch(0, 0, 2, 1));
    }

    private static void withdraw() {
        LodgeProofs x = Lodges.withGap(4);
        x.patch(0, 0, 1, 4);
        check.due("withdraw", true, () -> x.withdraw(0, 0, 1));
        check.due("step(0, 0, 1, 3)", 1, () -> x.step(0, 0, 1, 3));
        check.due("step(0, 0, 0, 3)", 0, () -> x.step(0, 0, 0, 3));
        check.due("not proved then", 0, () -> x.told(0, 2));
        check.due("the steps stay", 2, () -> x.about(0, 0, 0));
        check.due("put back", false, () -> x.withdraw(0, 0, 1));
        check.due("proved then", 1, () -> x.told(0, 2));
        check.refused("withdraw(1, 0, 0)", x, Check.INDEX, () -> x.withdraw(1, 0, 0));
        check.refused("withdraw(0, 1, 0)", x, Check.INDEX, () -> x.withdraw(0, 1, 0));
        check.refused("withdraw(0, 0, 2)", x, Check.INDEX, () -> x.withdraw(0, 0, 2));
        for (int bad : OUTSIDE) {
            check.refused("withdraw(" + bad + ", 0, 0)", x, Check.INDEX, () -> x.withdraw(bad, 0, 0));
            check.refused("withdraw(0, " + bad + ", 0)", x, Check.INDEX, () -> x.withdraw(0, bad, 0));
            check.refused("withdraw(0, 0, " + bad + ")", x, Check.INDEX, () -> x.withdraw(0, 0, bad));
        }
    }

    private static LodgeProofs withThreeProofs() {
        LodgeProofs x = new LodgeProofs();
        x.lemma();
        x.lemma();
        x.proof(0);
        x.proof(0);
        x.proof(0);
        x.proof(1);
        x.cite(0, 0, 0, 3);
        x.cite(0, 1, 2, 5);
        x.cite(0, 1, 1, 1);
        x.cite(0, 2, 2, 7);
        x.cite(0, 2, 0, 2);
        x.cite(0, 2, 1, 0);
        x.patch(0, 2, 0, 3);
        x.withdraw(0, 2, 1);
        x.cite(1, 0, 0, 1);
        return x;
    }

    private static void dueSteps(String when, LodgeProofs x, int proof, int[][] steps) {
        check.due(when + ": steps", steps.length, () -> x.about(0, proof, 0));
        for (int place = 0; place < steps.length; place++) {
            for (int what = 0; what < 4; what++) {
                int there = place;
                int asked = what;
                check.due(when + ": step(0, " + proof + ", " + place + ", " + what + ")",
                        steps[place][what], () -> x.step(0, proof, there, asked));
            }
        }
    }

    private static void strike() {
        int[][] last = {{2, 7, 4, 0}, {0, 2, 0, 1}, {1, 0, 0, 0}};
        LodgeProofs x = withThreeProofs();
        check.due("strike the first", 2, () -> x.strike(0, 0));
        dueSteps("first struck", x, 0, new int[][] {{2, 5, 5, 0}, {1, 1, 0, 0}});
        dueSteps("first struck", x, 1, last);
        check.due("not proved then", 0, () -> x.told(0, 2));
        check.due("the other lemma's proof stays", 1, () -> x.about(1, 0, 0));
        check.due("strike the first again", 1, () -> x.strike(0, 0));
        dueSteps("two struck", x, 0, last);
        check.due("strike the last", 0, () -> x.strike(0, 0));
        check.due("a proof begun then", 0, () -> x.proof(0));
        dueSteps("begun again", x, 0, new int[0][]);
        check.due("cite there", 1, () -> x.cite(0, 0, 0, 2));
        dueSteps("cited again", x, 0, new int[][] {{0, 2, 0, 0}});

        LodgeProofs middle = withThreeProofs();
        check.due("strike the middle", 2, () -> middle.strike(0, 1));
        dueSteps("middle struck", middle, 0, new int[][] {{0, 3, 0, 0}});
        dueSteps("middle struck", middle, 1, last);
        check.due("in a circle by itself", 1, () -> middle.told(0, 6));
        check.due("strike behind it", 1, () -> middle.strike(0, 1));
        check.due("in no circle then", 0, () -> middle.told(0, 6));
        check.due("proved still", 1, () -> middle.told(0, 2));
    }

    private static void struckIsForgotten() {
        LodgeProofs x = Lodges.withGap(4);
        x.withdraw(0, 0, 0);
        x.withdraw(0, 0, 1);
        x.strike(0, 0);
        x.proof(0);
        x.cite(0, 0, 2, 3);
        x.cite(0, 0, 0, 1);
        dueSteps("cited anew", x, 0, new int[][] {{2, 3, 3, 0}, {0, 1, 0, 0}});
        check.due("what was open before counts no more", 3, () -> x.count(5));
    }

    /** Each place of each proof of each lemma, so that none shares its row with another. */
    private static void fullLodge() {
        LodgeProofs x = new LodgeProofs();
        for (int lemma = 0; lemma < 12; lemma++) {
            x.lemma();
            for (int proof = 0; proof < 3; proof++) {
                x.proof(lemma);
                for (int place = 0; place < 5; place++) {
                    x.cite(lemma, proof, 2, (lemma + 3 * proof + 2 * place) % 9 + 1);
                }
            }
        }
        check.due("full: count(4)", 180, () -> x.count(4));
        dueFull(x, 11, 2, 2);
        dueFull(x, 0, 0, 0);
        dueFull(x, 5, 1, 1);
        check.due("strike(11, 0)", 2, () -> x.strike(11, 0));
        dueFull(x, 11, 0, 1);
        dueFull(x, 11, 1, 2);
        check.due("strike(11, 1)", 1, () -> x.strike(11, 1));
        dueFull(x, 11, 0, 1);
        check.due("strike(4, 2)", 2, () -> x.strike(4, 2));
        dueFull(x, 4, 1, 1);
        dueFull(x, 5, 0, 0);
        check.due("three struck: count(4)", 165, () -> x.count(4));
    }

    /** A proof of the full lodge has the steps that it was given as the proof `was`. */
    private static void dueFull(LodgeProofs x, int lemma, int proof, int was) {
        for (int place = 0; place < 5; place++) {
            int there = place;
            check.due("full: step(" + lemma + ", " + proof + ", " + place + ", 1)",
                    (lemma + 3 * was + 2 * place) % 9 + 1, () -> x.step(lemma, proof, there, 1));
        }
    }

    private static void strikeRefused() {
        LodgeProofs x = withThreeProofs();
        check.refused("strike(2, 0)", x, Check.INDEX, () -> x.strike(2, 0));
        check.refused("strike(0, 3)", x, Check.INDEX, () -> x.strike(0, 3));
        check.refused("strike(1, 1)", x, Check.INDEX, () -> x.strike(1, 1));
        for (int bad : OUTSIDE) {
            check.refused("strike(" + bad + ", 0)", x, Check.INDEX, () -> x.strike(bad, 0));
            check.refused("strike(0, " + bad + ")", x, Check.INDEX, () -> x.strike(0, bad));
        }
        x.strike(0, 2);
        check.refused("strike what was struck", x, Check.INDEX, () -> x.strike(0, 2));
    }
}
