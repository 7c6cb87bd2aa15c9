/** Promises 9 to 13: what there is. */
public final class WhatThereIsTest {
    private static final int[] OUTSIDE = {Integer.MIN_VALUE, -1, Integer.MAX_VALUE};

    private static final Check check = new Check();

    public static void main(String[] args) {
        emptyProofs();
        stages();
        stageByOtherProof();
        longChains();
        lengths();
        lengthsThroughCircles();
        longLengths();
        prices();
        highPrices();
        openGaps();
        circles();
        about();
        counts();
        best();
        refused();
        check.end("WhatThereIsTest");
    }

    private static void dueTold(String when, LodgeProofs x, int lemma, int... answers) {
        for (int what = 0; what < answers.length; what++) {
            int asked = what;
            check.due(when + ": told(" + lemma + ", " + what + ")", answers[what],
                    () -> x.told(lemma, asked));
        }
    }

    private static void dueAbout(String when, LodgeProofs x, int lemma, int proof, int... answers) {
        for (int what = 0; what < answers.length; what++) {
            int asked = what;
            check.due(when + ": about(" + lemma + ", " + proof + ", " + what + ")", answers[what],
                    () -> x.about(lemma, proof, asked));
        }
    }

    private static void emptyProofs() {
        LodgeProofs x = Lodges.of(2, 0);
        x.proof(1);
        dueTold("without proofs", x, 0, 0, 0, 0, -1, -1, 0, 0);
        dueTold("with an empty proof", x, 1, 1, 0, 0, -1, -1, 0, 0);
        dueAbout("empty", x, 1, 0, 0, 0, -1, -1);
    }

    private static void stages() {
        LodgeProofs x = Lodges.of(4, 1);
        x.cite(3, 0, 0, 0);
        x.cite(2, 0, 1, 3);
        x.cite(1, 0, 1, 2);
        x.cite(1, 0, 1, 3);
        x.cite(0, 0, 1, 0);
        dueTold("by an axiom", x, 3, 1, 1, 1, 1, 0, 0, 0);
        dueTold("by a lemma of stage 1", x, 2, 1, 1, 2, 2, 0, 0, 0);
        dueTold("by lemmas of stages 2 and 1", x, 1, 1, 2, 3, 5, 0, 0, 0);
        dueTold("by itself alone", x, 0, 1, 1, 0, -1, -1, 0, 1);
        x.withdraw(2, 0, 0);
        dueTold("withdrawn ahead", x, 1, 1, 2, 0, -1, -1, 0, 0);
        x.withdraw(2, 0, 0);
        x.take(0, false);
        for (int lemma = 0; lemma < 4; lemma++) {
            int asked = lemma;
            check.due("no axiom: told(" + lemma + ", 2)", 0, () -> x.told(asked, 2));
        }
        x.take(0, true);
        check.due("taken again: told(1, 2)", 3, () -> x.told(1, 2));
    }

    private static void stageByOtherProof() {
        LodgeProofs x = Lodges.of(3, 1);
        x.cite(0, 0, 0, 0);
        x.cite(1, 0, 1, 0);
        x.cite(2, 0, 1, 1);
        check.due("by a chain", 3, () -> x.told(2, 2));
        x.proof(2);
        x.cite(2, 1, 2, 5);
        check.due("by a chain, a gap beside it", 3, () -> x.told(2, 2));
        x.patch(2, 1, 0, 5);
        check.due("by the closed gap", 1, () -> x.told(2, 2));
        x.cite(1, 0, 1, 2);
        check.due("by stages 1 and 1", 2, () -> x.told(1, 2));
    }

    /** Twelve lemmas in a row, cited upwards and downwards, so that no order of reckoning helps. */
    private static void longChains() {
        LodgeProofs up = Lodges.of(12, 1);
        LodgeProofs down = Lodges.of(12, 1);
        up.cite(11, 0, 2, 6);
        down.cite(0, 0, 2, 6);
        for (int lemma = 0; lemma < 11; lemma++) {
            up.cite(lemma, 0, 1, lemma + 1);
            down.cite(lemma + 1, 0, 1, lemma);
        }
        dueTold("up, open", up, 0, 1, 1, 0, -1, 6, 0, 0);
        dueTold("down, open", down, 11, 1, 1, 0, -1, 6, 0, 0);
        up.patch(11, 0, 0, 6);
        down.patch(0, 0, 0, 6);
        dueTold("up", up, 0, 1, 1, 12, 12, 0, 0, 0);
        dueTold("down", down, 11, 1, 1, 12, 12, 0, 0, 0);
        dueAbout("up", up, 0, 0, 1, 1, 12, 0);
        dueAbout("down", down, 11, 0, 1, 1, 12, 0);
        check.due("all proved", 12, () -> up.count(1));
        check.due("all without the last", 11, () -> down.without(11));
        check.due("none without the first", 0, () -> down.without(0));
        up.proof(0);
        up.cite(0, 1, 1, 0);
        check.due("by the last stage of all", 1, () -> up.about(0, 1, 1));
    }

    private static void lengths() {
        LodgeProofs x = Lodges.of(3, 1);
        x.cite(0, 0, 0, 0);
        x.cite(0, 0, 0, 1);
        x.cite(1, 0, 1, 0);
        x.cite(1, 0, 1, 0);
        x.cite(1, 0, 0, 0);
        check.due("each cite adds", 7, () -> x.told(1, 3));
        x.proof(1);
        x.cite(1, 1, 1, 0);
        x.cite(1, 1, 2, 1);
        check.due("an open gap has none", 7, () -> x.told(1, 3));
        x.patch(1, 1, 1, 1);
        check.due("the least of its proofs", 4, () -> x.told(1, 3));
        x.withdraw(1, 1, 0);
        check.due("the withdrawn one has none", 7, () -> x.told(1, 3));
        x.cite(2, 0, 0, 4);
        x.cite(2, 0, 1, 1);
        check.due("through two lemmas", 9, () -> x.told(2, 3));
        x.take(4, false);
        check.due("an axiom not taken has none", -1, () -> x.told(2, 3));
    }

    private static void lengthsThroughCircles() {
        LodgeProofs x = Lodges.of(2, 2);
        x.cite(0, 0, 1, 1);
        x.cite(1, 0, 1, 0);
        dueTold("a circle alone", x, 0, 2, 1, 0, -1, -1, 0, 2);
        x.cite(1, 1, 0, 0);
        x.cite(1, 1, 0, 0);
        x.cite(1, 1, 0, 0);
        dueTold("a circle with a way in", x, 0, 2, 1, 2, 4, 0, 0, 2);
        dueTold("the way in", x, 1, 2, 4, 1, 3, 0, 0, 2);
        dueAbout("the round way", x, 1, 0, 1, 1, 5, 0);
    }

    /** Lemma n cites lemma n - 1 four times; so lengths are 1, 8, 36, 148, 596, 2388, 9556. */
    private static LodgeProofs longChain() {
        LodgeProofs x = Lodges.of(9, 1);
        x.cite(0, 0, 0, 0);
        for (int lemma = 1; lemma < 7; lemma++) {
            for (int step = 0; step < 4; step++) {
                x.cite(lemma, 0, 1, lemma - 1);
            }
        }
        return x;
    }

    private static void longLengths() {
        LodgeProofs x = longChain();
        dueTold("below 9999", x, 6, 1, 4, 7, 9556, 0, 0, 0);
        x.cite(7, 0, 1, 6);
        x.cite(7, 0, 1, 3);
        x.cite(7, 0, 1, 3);
        x.cite(7, 0, 1, 2);
        dueTold("9892", x, 7, 1, 4, 8, 9892, 0, 0, 0);
        x.cite(8, 0, 1, 7);
        x.cite(8, 0, 1, 2);
        x.cite(8, 0, 1, 2);
        x.cite(8, 0, 1, 2);
        dueTold("more than 9999", x, 8, 1, 4, 9, -1, 0, 0, 0);
        dueAbout("more than 9999", x, 8, 0, 4, 1, -1, 0);
        x.proof(8);
        check.due("best of none", -1, () -> x.best(8));
        bounds();
    }

    /** 9892 + 92 + 8 and 3 to 5 steps are 9995 to 9997; then a lemma that cites that one. */
    private static void bounds() {
        LodgeProofs x = longChain();
        x.cite(7, 0, 1, 6);
        x.cite(7, 0, 1, 3);
        x.cite(7, 0, 1, 3);
        x.cite(7, 0, 1, 2);
        x.lemma();
        x.lemma();
        x.proof(9);
        x.proof(10);
        x.cite(9, 0, 1, 2);
        x.cite(9, 0, 1, 2);
        x.cite(9, 0, 1, 1);
        x.cite(9, 0, 1, 1);
        check.due("told(9, 3)", 92, () -> x.told(9, 3));
        x.cite(8, 0, 1, 7);
        x.cite(8, 0, 1, 9);
        x.cite(8, 0, 1, 1);
        check.due("9995", 9995, () -> x.told(8, 3));
        x.cite(8, 0, 0, 0);
        x.cite(8, 0, 0, 0);
        check.due("9997", 9997, () -> x.told(8, 3));
        x.cite(10, 0, 1, 8);
        check.due("9998", 9998, () -> x.told(10, 3));
        check.due("about: 9998", 9998, () -> x.about(10, 0, 2));
        check.due("best: 9998", 0, () -> x.best(10));
        x.cite(10, 0, 0, 0);
        check.due("9999", -1, () -> x.told(10, 3));
        check.due("about: 9999", -1, () -> x.about(10, 0, 2));
        check.due("best: 9999", -1, () -> x.best(10));
        check.due("proved all the same", 10, () -> x.told(10, 2));
    }

    private static void prices() {
        LodgeProofs x = Lodges.of(3, 1);
        x.cite(0, 0, 2, 4);
        x.cite(0, 0, 2, 3);
        x.cite(0, 0, 0, 0);
        dueTold("two gaps", x, 0, 1, 3, 0, -1, 7, 7, 0);
        x.cite(1, 0, 1, 0);
        x.cite(1, 0, 1, 0);
        x.cite(1, 0, 2, 1);
        dueTold("each cite adds", x, 1, 1, 3, 0, -1, 15, 1, 0);
        x.patch(0, 0, 0, 3);
        check.due("patched", 4, () -> x.told(0, 4));
        check.due("patched below", 9, () -> x.told(1, 4));
        x.proof(1);
        x.cite(1, 1, 2, 8);
        check.due("the least of its proofs", 8, () -> x.told(1, 4));
        x.withdraw(1, 1, 0);
        check.due("a withdrawn step has none", 9, () -> x.told(1, 4));
        dueAbout("withdrawn", x, 1, 1, 1, 0, -1, -1);
        x.cite(2, 0, 1, 2);
        check.due("what leads to itself alone", -1, () -> x.told(2, 4));
        x.take(0, false);
        check.due("an axiom not taken has none", -1, () -> x.told(0, 4));
        check.due("a lemma without a price has none", -1, () -> x.told(1, 4));
        x.withdraw(1, 1, 0);
        check.due("the other proof", 8, () -> x.told(1, 4));
        x.patch(1, 1, 0, 8);
        dueTold("nothing has to be patched", x, 1, 2, 4, 1, 1, 0, 1, 0);
    }

    private static void highPrices() {
        LodgeProofs x = Lodges.of(8, 1);
        x.cite(0, 0, 2, 9);
        for (int lemma = 1; lemma < 5; lemma++) {
            for (int step = 0; step < 5; step++) {
                x.cite(lemma, 0, 1, lemma - 1);
            }
        }
        check.due("9 * 625", 5625, () -> x.told(4, 4));
        x.cite(5, 0, 1, 4);
        x.cite(5, 0, 1, 3);
        x.cite(5, 0, 1, 3);
        x.cite(5, 0, 1, 3);
        x.cite(5, 0, 1, 2);
        check.due("9 * 1025", 9225, () -> x.told(5, 4));
        x.cite(6, 0, 1, 5);
        x.cite(6, 0, 1, 2);
        x.cite(6, 0, 1, 2);
        x.cite(6, 0, 1, 2);
        check.due("9 * 1100", 9900, () -> x.told(6, 4));
        x.cite(7, 0, 1, 6);
        x.cite(7, 0, 1, 1);
        x.cite(7, 0, 1, 1);
        check.due("9990", 9990, () -> x.told(7, 4));
        x.cite(7, 0, 2, 8);
        check.due("9998", 9998, () -> x.told(7, 4));
        check.due("about: 9998", 9998, () -> x.about(7, 0, 3));
        x.cite(7, 0, 2, 1);
        check.due("9999", -1, () -> x.told(7, 4));
        check.due("about: 9999", -1, () -> x.about(7, 0, 3));
        x.patch(7, 0, 3, 1);
        check.due("9998 again", 9998, () -> x.told(7, 4));
    }

    private static void openGaps() {
        LodgeProofs x = Lodges.of(2, 3);
        x.cite(0, 0, 2, 9);
        x.cite(0, 1, 2, 5);
        x.cite(0, 2, 0, 0);
        x.cite(1, 0, 2, 1);
        x.withdraw(0, 0, 0);
        check.due("of withdrawn steps, too", 14, () -> x.told(0, 5));
        x.patch(0, 1, 0, 2);
        check.due("what is open alone", 12, () -> x.told(0, 5));
        check.due("of all", 13, () -> x.count(5));
    }

    private static void circles() {
        LodgeProofs x = Lodges.of(5, 1);
        x.cite(0, 0, 1, 1);
        x.cite(1, 0, 1, 2);
        x.cite(2, 0, 1, 3);
        check.due("a chain", 0, () -> x.count(6));
        x.cite(3, 0, 1, 0);
        x.cite(4, 0, 1, 0);
        int[] four = {4, 4, 4, 4, 0};
        int[] two = {4, 2, 2, 4, 0};
        int[] one = {1, 2, 2, 4, 0};
        dueCircles("four", x, four);
        x.cite(2, 0, 1, 1);
        dueCircles("two inside four", x, two);
        x.proof(0);
        x.cite(0, 1, 2, 9);
        x.cite(0, 1, 1, 0);
        dueCircles("itself, not whole", x, one);
        x.withdraw(0, 1, 1);
        x.withdraw(3, 0, 0);
        dueCircles("withdrawn", x, one);
        x.strike(0, 1);
        dueCircles("struck", x, two);
        x.strike(3, 0);
        dueCircles("struck", x, new int[] {0, 2, 2, 0, 0});
        LodgeProofs all = Lodges.of(12, 1);
        for (int lemma = 0; lemma < 12; lemma++) {
            all.cite(lemma, 0, 1, (lemma + 1) % 12);
        }
        check.due("all twelve", 12, () -> all.count(6));
        check.due("by twelve cites", 12, () -> all.told(7, 6));
    }

    private static void dueCircles(String when, LodgeProofs x, int[] circles) {
        int in = 0;
        for (int lemma = 0; lemma < circles.length; lemma++) {
            int asked = lemma;
            check.due(when + ": told(" + lemma + ", 6)", circles[lemma], () -> x.told(asked, 6));
            in += circles[lemma] > 0 ? 1 : 0;
        }
        check.due(when + ": count(6)", in, () -> x.count(6));
    }

    private static void about() {
        LodgeProofs x = Lodges.of(2, 2);
        x.cite(0, 0, 0, 0);
        x.cite(0, 1, 1, 0);
        x.cite(0, 1, 2, 6);
        dueAbout("by an axiom", x, 0, 0, 1, 1, 1, 0);
        dueAbout("with a gap", x, 0, 1, 2, 0, -1, 6);
        x.patch(0, 1, 1, 6);
        dueAbout("by the lemma itself, proved otherwise", x, 0, 1, 2, 1, 3, 0);
        x.cite(1, 0, 1, 0);
        dueAbout("by a lemma", x, 1, 0, 1, 1, 2, 0);
        x.take(0, false);
        dueAbout("by an axiom not taken", x, 0, 0, 1, 0, -1, -1);
        dueAbout("by itself alone", x, 0, 1, 2, 0, -1, -1);
        dueAbout("by a lemma not proved", x, 1, 0, 1, 0, -1, -1);
    }

    private static void counts() {
        LodgeProofs x = Lodges.of(3, 2);
        x.cite(0, 0, 0, 0);
        x.cite(1, 1, 1, 0);
        x.cite(1, 1, 2, 4);
        x.cite(2, 0, 1, 2);
        x.cite(2, 0, 2, 3);
        x.withdraw(2, 0, 1);
        x.patch(1, 1, 1, 1);
        x.take(3, false);
        int[] counts = {3, 1, 4, 6, 5, 6, 1};
        for (int what = 0; what < counts.length; what++) {
            int asked = what;
            check.due("count(" + what + ")", counts[what], () -> x.count(asked));
        }
        x.patch(1, 1, 1, 3);
        check.due("proved then", 2, () -> x.count(1));
        x.strike(1, 0);
        check.due("proofs then", 5, () -> x.count(3));
        x.strike(1, 0);
        check.due("steps then", 3, () -> x.count(4));
    }

    private static void best() {
        LodgeProofs x = Lodges.of(2, 3);
        check.due("none has a length", -1, () -> x.best(0));
        x.cite(0, 0, 2, 1);
        x.cite(0, 1, 0, 0);
        x.cite(0, 1, 0, 0);
        x.cite(0, 2, 0, 1);
        x.cite(0, 2, 0, 1);
        check.due("the smallest of several", 1, () -> x.best(0));
        x.cite(0, 1, 0, 1);
        check.due("the least length", 2, () -> x.best(0));
        x.patch(0, 0, 0, 1);
        check.due("the closed one", 0, () -> x.best(0));
        x.withdraw(0, 0, 0);
        x.take(1, false);
        check.due("none again", -1, () -> x.best(0));
        LodgeProofs none = Lodges.of(1, 0);
        check.due("without proofs", -1, () -> none.best(0));
        LodgeProofs struck = Lodges.of(1, 2);
        struck.cite(0, 0, 0, 0);
        struck.cite(0, 0, 0, 0);
        struck.cite(0, 1, 0, 0);
        check.due("the last one", 1, () -> struck.best(0));
        struck.strike(0, 1);
        check.due("the last one is struck", 0, () -> struck.best(0));
    }

    private static void refused() {
        LodgeProofs x = Lodges.of(2, 2);
        x.cite(0, 0, 0, 0);
        check.refused("told(2, 0)", x, Check.INDEX, () -> x.told(2, 0));
        check.refused("told(0, 7)", x, Check.INDEX, () -> x.told(0, 7));
        check.refused("step(2, 0, 0, 0)", x, Check.INDEX, () -> x.step(2, 0, 0, 0));
        check.refused("step(0, 2, 0, 0)", x, Check.INDEX, () -> x.step(0, 2, 0, 0));
        check.refused("step(0, 0, 1, 0)", x, Check.INDEX, () -> x.step(0, 0, 1, 0));
        check.refused("step(0, 1, 0, 0)", x, Check.INDEX, () -> x.step(0, 1, 0, 0));
        check.refused("step(0, 0, 0, 4)", x, Check.INDEX, () -> x.step(0, 0, 0, 4));
        check.refused("about(2, 0, 0)", x, Check.INDEX, () -> x.about(2, 0, 0));
        check.refused("about(0, 2, 0)", x, Check.INDEX, () -> x.about(0, 2, 0));
        check.refused("about(0, 0, 4)", x, Check.INDEX, () -> x.about(0, 0, 4));
        check.refused("count(7)", x, Check.INDEX, () -> x.count(7));
        check.refused("best(2)", x, Check.INDEX, () -> x.best(2));
        for (int bad : OUTSIDE) {
            check.refused("told(" + bad + ", 0)", x, Check.INDEX, () -> x.told(bad, 0));
            check.refused("told(0, " + bad + ")", x, Check.INDEX, () -> x.told(0, bad));
            check.refused("step(" + bad + ", 0, 0, 0)", x, Check.INDEX, () -> x.step(bad, 0, 0, 0));
            check.refused("step(0, " + bad + ", 0, 0)", x, Check.INDEX, () -> x.step(0, bad, 0, 0));
            check.refused("step(0, 0, " + bad + ", 0)", x, Check.INDEX, () -> x.step(0, 0, bad, 0));
            check.refused("step(0, 0, 0, " + bad + ")", x, Check.INDEX, () -> x.step(0, 0, 0, bad));
            check.refused("about(" + bad + ", 0, 0)", x, Check.INDEX, () -> x.about(bad, 0, 0));
            check.refused("about(0, " + bad + ", 0)", x, Check.INDEX, () -> x.about(0, bad, 0));
            check.refused("about(0, 0, " + bad + ")", x, Check.INDEX, () -> x.about(0, 0, bad));
            check.refused("count(" + bad + ")", x, Check.INDEX, () -> x.count(bad));
            check.refused("best(" + bad + ")", x, Check.INDEX, () -> x.best(bad));
        }
    }
}
