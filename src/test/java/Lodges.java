/** Lodges that several tests begin with. */
final class Lodges {
    private Lodges() {
    }

    /** So many lemmas, each with so many proofs without steps. */
    static LodgeProofs of(int lemmas, int proofs) {
        LodgeProofs x = new LodgeProofs();
        for (int lemma = 0; lemma < lemmas; lemma++) {
            x.lemma();
            for (int proof = 0; proof < proofs; proof++) {
                x.proof(lemma);
            }
        }
        return x;
    }

    /** Full, in 228 calls: each proof has five steps by axioms, at the place n by the axiom n. */
    static LodgeProofs full() {
        LodgeProofs x = of(12, 3);
        for (int lemma = 0; lemma < 12; lemma++) {
            for (int proof = 0; proof < 3; proof++) {
                cite(x, lemma, proof, 0, 0, 1, 2, 3, 4);
            }
        }
        return x;
    }

    /** One lemma; its proof has a step by axiom 1, and one with a gap of this size. */
    static LodgeProofs withGap(int size) {
        LodgeProofs x = of(1, 1);
        x.cite(0, 0, 0, 1);
        x.cite(0, 0, 2, size);
        return x;
    }

    /** Adds a step of this kind for each of these, and answers what the last cite answers. */
    static int cite(LodgeProofs x, int lemma, int proof, int kind, int... whats) {
        int steps = 0;
        for (int what : whats) {
            steps = x.cite(lemma, proof, kind, what);
        }
        return steps;
    }

    /**
     * Lemmas 0 to 8 have the lengths 5, 30, 155, 780, 3905, 9530, 9905, 9980 and 9995; the proof 0
     * of lemma 9 cites lemma 8, which makes 9996, and has room for four steps more. Lemmas 10 and
     * 11 each cite the one ahead of it.
     */
    static LodgeProofs longOnes() {
        LodgeProofs x = of(12, 1);
        cite(x, 0, 0, 0, 0, 0, 0, 0, 0);
        for (int lemma = 1; lemma < 5; lemma++) {
            int below = lemma - 1;
            cite(x, lemma, 0, 1, below, below, below, below, below);
        }
        cite(x, 5, 0, 1, 4, 4, 3, 3, 2);
        cite(x, 6, 0, 1, 5, 2, 2, 1, 1);
        cite(x, 7, 0, 1, 6, 1, 1, 0, 0);
        cite(x, 8, 0, 1, 7, 0, 0);
        cite(x, 8, 0, 0, 0, 0);
        for (int lemma = 9; lemma < 12; lemma++) {
            x.cite(lemma, 0, 1, lemma - 1);
        }
        return x;
    }

    /**
     * Lemmas 0 to 6 have the prices 9, 45, 225, 1125, 5625, 9225 and 9945; the proof 0 of lemma 7
     * cites lemmas 6 and 1, which makes 9990, and has room for three steps more. Lemmas 8 and 9
     * each cite the one ahead of it.
     */
    static LodgeProofs dearOnes() {
        LodgeProofs x = of(10, 1);
        x.cite(0, 0, 2, 9);
        for (int lemma = 1; lemma < 5; lemma++) {
            int below = lemma - 1;
            cite(x, lemma, 0, 1, below, below, below, below, below);
        }
        cite(x, 5, 0, 1, 4, 3, 3, 3, 2);
        cite(x, 6, 0, 1, 5, 2, 2, 2, 1);
        cite(x, 7, 0, 1, 6, 1);
        cite(x, 8, 0, 1, 7);
        cite(x, 9, 0, 1, 8);
        return x;
    }
}
